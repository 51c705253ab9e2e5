/-! Words of fields, constants and calls: written by wip/whole/gen. -/
set_option maxRecDepth 20000 in
theorem zb_m15 : (Int8.ofInt (-15)).toInt32 = (-15) := by decide
set_option maxRecDepth 20000 in
theorem zb_m14 : (Int8.ofInt (-14)).toInt32 = (-14) := by decide
set_option maxRecDepth 20000 in
theorem zb_m13 : (Int8.ofInt (-13)).toInt32 = (-13) := by decide
set_option maxRecDepth 20000 in
theorem zb_m12 : (Int8.ofInt (-12)).toInt32 = (-12) := by decide
set_option maxRecDepth 20000 in
theorem zb_m11 : (Int8.ofInt (-11)).toInt32 = (-11) := by decide
set_option maxRecDepth 20000 in
theorem zb_m10 : (Int8.ofInt (-10)).toInt32 = (-10) := by decide
set_option maxRecDepth 20000 in
theorem zb_m9 : (Int8.ofInt (-9)).toInt32 = (-9) := by decide
set_option maxRecDepth 20000 in
theorem zb_m8 : (Int8.ofInt (-8)).toInt32 = (-8) := by decide
set_option maxRecDepth 20000 in
theorem zb_m7 : (Int8.ofInt (-7)).toInt32 = (-7) := by decide
set_option maxRecDepth 20000 in
theorem zb_m6 : (Int8.ofInt (-6)).toInt32 = (-6) := by decide
set_option maxRecDepth 20000 in
theorem zb_m5 : (Int8.ofInt (-5)).toInt32 = (-5) := by decide
set_option maxRecDepth 20000 in
theorem zb_m4 : (Int8.ofInt (-4)).toInt32 = (-4) := by decide
set_option maxRecDepth 20000 in
theorem zb_m3 : (Int8.ofInt (-3)).toInt32 = (-3) := by decide
set_option maxRecDepth 20000 in
theorem zb_m2 : (Int8.ofInt (-2)).toInt32 = (-2) := by decide
set_option maxRecDepth 20000 in
theorem zb_6 : (Int8.ofInt 6).toInt32 = 6 := by decide
set_option maxRecDepth 20000 in
theorem zb_7 : (Int8.ofInt 7).toInt32 = 7 := by decide
set_option maxRecDepth 20000 in
theorem zb_8 : (Int8.ofInt 8).toInt32 = 8 := by decide
set_option maxRecDepth 20000 in
theorem zb_12 : (Int8.ofInt 12).toInt32 = 12 := by decide
set_option maxRecDepth 20000 in
theorem zb_15 : (Int8.ofInt 15).toInt32 = 15 := by decide
set_option maxRecDepth 20000 in
theorem zb_16 : (Int8.ofInt 16).toInt32 = 16 := by decide
set_option maxRecDepth 20000 in
theorem zb_24 : (Int8.ofInt 24).toInt32 = 24 := by decide
set_option maxRecDepth 20000 in
theorem zb_64 : (Int8.ofInt 64).toInt32 = 64 := by decide
set_option maxRecDepth 20000 in
theorem zb_65 : (Int8.ofInt 65).toInt32 = 65 := by decide
set_option maxRecDepth 20000 in
theorem zb_66 : (Int8.ofInt 66).toInt32 = 66 := by decide
set_option maxRecDepth 20000 in
theorem zb_72 : (Int8.ofInt 72).toInt32 = 72 := by decide
set_option maxRecDepth 20000 in
theorem zb_80 : (Int8.ofInt 80).toInt32 = 80 := by decide
set_option maxRecDepth 20000 in
theorem zb_83 : (Int8.ofInt 83).toInt32 = 83 := by decide
set_option maxRecDepth 20000 in
theorem zc_m1 : Int32.ofInt (-1) = (-1) := by decide
set_option maxRecDepth 20000 in
theorem zc_0 : Int32.ofInt 0 = 0 := by decide
set_option maxRecDepth 20000 in
theorem zc_1 : Int32.ofInt 1 = 1 := by decide
set_option maxRecDepth 20000 in
theorem zc_2 : Int32.ofInt 2 = 2 := by decide
set_option maxRecDepth 20000 in
theorem zc_3 : Int32.ofInt 3 = 3 := by decide
set_option maxRecDepth 20000 in
theorem zc_4 : Int32.ofInt 4 = 4 := by decide
set_option maxRecDepth 20000 in
theorem zc_5 : Int32.ofInt 5 = 5 := by decide
set_option maxRecDepth 20000 in
theorem zs_128 : (Int16.ofInt 128).toInt32 = 128 := by decide
set_option maxRecDepth 20000 in
theorem zs_255 : (Int16.ofInt 255).toInt32 = 255 := by decide
set_option maxRecDepth 20000 in
theorem zs_256 : (Int16.ofInt 256).toInt32 = 256 := by decide
set_option maxRecDepth 20000 in
theorem zs_260 : (Int16.ofInt 260).toInt32 = 260 := by decide
set_option maxRecDepth 20000 in
theorem zs_400 : (Int16.ofInt 400).toInt32 = 400 := by decide
set_option maxRecDepth 20000 in
theorem zs_1040 : (Int16.ofInt 1040).toInt32 = 1040 := by decide
set_option maxRecDepth 20000 in
theorem zs_2000 : (Int16.ofInt 2000).toInt32 = 2000 := by decide
set_option maxRecDepth 20000 in
theorem zs_3200 : (Int16.ofInt 3200).toInt32 = 3200 := by decide
set_option maxRecDepth 20000 in
theorem zs_4129 : (Int16.ofInt 4129).toInt32 = 4129 := by decide
set_option maxRecDepth 20000 in
theorem zs_21314 : (Int16.ofInt 21314).toInt32 = 21314 := by decide
set_option maxRecDepth 20000 in
theorem w_Main_214 : Cond.constant "SortedBlocks" 214 3227993 ∈ zx_T := (zx_i4 196 rfl rfl)
set_option maxRecDepth 20000 in
theorem w_Main_215 : Cond.constant "SortedBlocks" 215 1536581 ∈ zx_T := (zx_i4 197 rfl rfl)
set_option maxRecDepth 20000 in
theorem w_Main_222 : Cond.constant "SortedBlocks" 222 65535 ∈ zx_T := (zx_i3 63 rfl rfl)
set_option maxRecDepth 20000 in
theorem w_BitReader_42 : Cond.constant "SortedBlocks$BitReader" 42 16777215 ∈ zx_T := (zx_i2 149 rfl rfl)
set_option maxRecDepth 20000 in
theorem w_BitReader_43 : Cond.constant "SortedBlocks$BitReader" 43 3227993 ∈ zx_T := (zx_i2 150 rfl rfl)
set_option maxRecDepth 20000 in
theorem w_BlockWriter_44 : Cond.constant "SortedBlocks$BlockWriter" 44 1536581 ∈ zx_T := (zx_i4 172 rfl rfl)
set_option maxRecDepth 20000 in
theorem w_BlockWriter_48 : Cond.constant "SortedBlocks$BlockWriter" 48 3227993 ∈ zx_T := (zx_i4 134 rfl rfl)
set_option maxRecDepth 20000 in
theorem w_Mod_81 : Cond.constantLong "SortedBlocksModel" 81 255 ∈ zx_T := (zx_i5 148 rfl rfl)
set_option maxRecDepth 20000 in
theorem w_Mod_89 : Cond.constant "SortedBlocksModel" 89 32768 ∈ zx_T := (zx_i5 185 rfl rfl)
set_option maxRecDepth 20000 in
theorem w_Mod_90 : Cond.constant "SortedBlocksModel" 90 65535 ∈ zx_T := (zx_i5 181 rfl rfl)
set_option maxRecDepth 20000 in
theorem w_Mod_162 : Cond.constant "SortedBlocksModel" 162 3227993 ∈ zx_T := (zx_i5 238 rfl rfl)
set_option maxRecDepth 20000 in
theorem w_Mod_227 : Cond.constant "SortedBlocksModel" 227 1536581 ∈ zx_T := (zx_i6 30 rfl rfl)
set_option maxRecDepth 20000 in
theorem f_Main_14 : zx_fld "SortedBlocks" 14 0 0 true true := ⟨_, F_Main, 12, t_Main, rfl, by decide, cw_Main, ct_Main, cn_Main, rfl, rfl, rfl, (fun h => by first | rfl | cases h), (fun h => by first | rfl | cases h), rfl, Or.inl (zx_i2 88 rfl rfl)⟩
set_option maxRecDepth 20000 in
theorem f_Main_18 : zx_fld "SortedBlocks" 18 0 1 true true := ⟨_, F_Main, 12, t_Main, rfl, by decide, cw_Main, ct_Main, cn_Main, rfl, rfl, rfl, (fun h => by first | rfl | cases h), (fun h => by first | rfl | cases h), rfl, Or.inl (zx_i2 89 rfl rfl)⟩
set_option maxRecDepth 20000 in
theorem f_Main_21 : zx_fld "SortedBlocks" 21 0 2 true true := ⟨_, F_Main, 12, t_Main, rfl, by decide, cw_Main, ct_Main, cn_Main, rfl, rfl, rfl, (fun h => by first | rfl | cases h), (fun h => by first | rfl | cases h), rfl, Or.inl (zx_i2 90 rfl rfl)⟩
set_option maxRecDepth 20000 in
theorem f_Main_29 : zx_fld "SortedBlocks" 29 0 3 true true := ⟨_, F_Main, 12, t_Main, rfl, by decide, cw_Main, ct_Main, cn_Main, rfl, rfl, rfl, (fun h => by first | rfl | cases h), (fun h => by first | rfl | cases h), rfl, Or.inl (zx_i2 91 rfl rfl)⟩
set_option maxRecDepth 20000 in
theorem f_Main_38 : zx_fld "SortedBlocks" 38 0 4 true true := ⟨_, F_Main, 12, t_Main, rfl, by decide, cw_Main, ct_Main, cn_Main, rfl, rfl, rfl, (fun h => by first | rfl | cases h), (fun h => by first | rfl | cases h), rfl, Or.inl (zx_i2 92 rfl rfl)⟩
set_option maxRecDepth 20000 in
theorem f_Main_59 : zx_fld "SortedBlocks" 59 0 7 true false := ⟨_, F_Main, 12, t_Main, rfl, by decide, cw_Main, ct_Main, cn_Main, rfl, rfl, rfl, (fun h => by first | rfl | cases h), (fun h => by first | rfl | cases h), rfl, Or.inl (zx_i2 95 rfl rfl)⟩
set_option maxRecDepth 20000 in
theorem f_Main_63 : zx_fld "SortedBlocks" 63 0 8 true false := ⟨_, F_Main, 12, t_Main, rfl, by decide, cw_Main, ct_Main, cn_Main, rfl, rfl, rfl, (fun h => by first | rfl | cases h), (fun h => by first | rfl | cases h), rfl, Or.inl (zx_i2 96 rfl rfl)⟩
set_option maxRecDepth 20000 in
theorem f_Main_66 : zx_fld "SortedBlocks" 66 0 9 false false := ⟨_, F_Main, 12, t_Main, rfl, by decide, cw_Main, ct_Main, cn_Main, rfl, rfl, rfl, (fun h => by first | rfl | cases h), (fun h => by first | rfl | cases h), rfl, Or.inl (zx_i2 97 rfl rfl)⟩
set_option maxRecDepth 20000 in
theorem f_Main_70 : zx_fld "SortedBlocks" 70 0 10 false false := ⟨_, F_Main, 12, t_Main, rfl, by decide, cw_Main, ct_Main, cn_Main, rfl, rfl, rfl, (fun h => by first | rfl | cases h), (fun h => by first | rfl | cases h), rfl, Or.inl (zx_i2 98 rfl rfl)⟩
set_option maxRecDepth 20000 in
theorem f_Main_73 : zx_fld "SortedBlocks" 73 0 11 false false := ⟨_, F_Main, 12, t_Main, rfl, by decide, cw_Main, ct_Main, cn_Main, rfl, rfl, rfl, (fun h => by first | rfl | cases h), (fun h => by first | rfl | cases h), rfl, Or.inl (zx_i2 99 rfl rfl)⟩
set_option maxRecDepth 20000 in
theorem f_Main_95 : zx_fld "SortedBlocks" 95 11 1 false false := ⟨_, F_Row, 2, t_Row, rfl, by decide, cw_Row, ct_Row, cn_Row, rfl, rfl, rfl, (fun h => by first | rfl | cases h), (fun h => by first | rfl | cases h), rfl, Or.inr ⟨"SortedBlocks", (zx_n1 44 rfl rfl)⟩⟩
set_option maxRecDepth 20000 in
theorem f_Main_127 : zx_fld "SortedBlocks" 127 4 0 false false := ⟨_, F_Block, 13, t_Block, rfl, by decide, cw_Block, ct_Block, cn_Block, rfl, rfl, rfl, (fun h => by first | rfl | cases h), (fun h => by first | rfl | cases h), rfl, Or.inr ⟨"SortedBlocks", (zx_n2 6 rfl rfl)⟩⟩
set_option maxRecDepth 20000 in
theorem f_Main_153 : zx_fld "SortedBlocks" 153 2 2 false false := ⟨_, F_BitReader, 3, t_BitReader, rfl, by decide, cw_BitReader, ct_BitReader, cn_BitReader, rfl, rfl, rfl, (fun h => by first | rfl | cases h), (fun h => by first | rfl | cases h), rfl, Or.inr ⟨"SortedBlocks", (zx_n1 64 rfl rfl)⟩⟩
set_option maxRecDepth 20000 in
theorem f_Main_165 : zx_fld "SortedBlocks" 165 2 1 false false := ⟨_, F_BitReader, 3, t_BitReader, rfl, by decide, cw_BitReader, ct_BitReader, cn_BitReader, rfl, rfl, rfl, (fun h => by first | rfl | cases h), (fun h => by first | rfl | cases h), rfl, Or.inr ⟨"SortedBlocks", (zx_n1 61 rfl rfl)⟩⟩
set_option maxRecDepth 20000 in
theorem f_Main_181 : zx_fld "SortedBlocks" 181 4 2 false false := ⟨_, F_Block, 13, t_Block, rfl, by decide, cw_Block, ct_Block, cn_Block, rfl, rfl, rfl, (fun h => by first | rfl | cases h), (fun h => by first | rfl | cases h), rfl, Or.inr ⟨"SortedBlocks", (zx_n2 15 rfl rfl)⟩⟩
set_option maxRecDepth 20000 in
theorem f_Main_182 : zx_fld "SortedBlocks" 182 4 7 false false := ⟨_, F_Block, 13, t_Block, rfl, by decide, cw_Block, ct_Block, cn_Block, rfl, rfl, rfl, (fun h => by first | rfl | cases h), (fun h => by first | rfl | cases h), rfl, Or.inr ⟨"SortedBlocks", (zx_n2 36 rfl rfl)⟩⟩
set_option maxRecDepth 20000 in
theorem f_Main_185 : zx_fld "SortedBlocks" 185 4 9 false false := ⟨_, F_Block, 13, t_Block, rfl, by decide, cw_Block, ct_Block, cn_Block, rfl, rfl, rfl, (fun h => by first | rfl | cases h), (fun h => by first | rfl | cases h), rfl, Or.inr ⟨"SortedBlocks", (zx_n2 45 rfl rfl)⟩⟩
set_option maxRecDepth 20000 in
theorem f_Main_188 : zx_fld "SortedBlocks" 188 4 4 true true := ⟨_, F_Block, 13, t_Block, rfl, by decide, cw_Block, ct_Block, cn_Block, rfl, rfl, rfl, (fun h => by first | rfl | cases h), (fun h => by first | rfl | cases h), rfl, Or.inr ⟨"SortedBlocks", (zx_n2 21 rfl rfl)⟩⟩
set_option maxRecDepth 20000 in
theorem f_Main_192 : zx_fld "SortedBlocks" 192 4 8 true true := ⟨_, F_Block, 13, t_Block, rfl, by decide, cw_Block, ct_Block, cn_Block, rfl, rfl, rfl, (fun h => by first | rfl | cases h), (fun h => by first | rfl | cases h), rfl, Or.inr ⟨"SortedBlocks", (zx_n2 40 rfl rfl)⟩⟩
set_option maxRecDepth 20000 in
theorem f_Main_198 : zx_fld "SortedBlocks" 198 4 10 true true := ⟨_, F_Block, 13, t_Block, rfl, by decide, cw_Block, ct_Block, cn_Block, rfl, rfl, rfl, (fun h => by first | rfl | cases h), (fun h => by first | rfl | cases h), rfl, Or.inr ⟨"SortedBlocks", (zx_n2 50 rfl rfl)⟩⟩
set_option maxRecDepth 20000 in
theorem f_Main_202 : zx_fld "SortedBlocks" 202 4 11 false false := ⟨_, F_Block, 13, t_Block, rfl, by decide, cw_Block, ct_Block, cn_Block, rfl, rfl, rfl, (fun h => by first | rfl | cases h), (fun h => by first | rfl | cases h), rfl, Or.inr ⟨"SortedBlocks", (zx_n2 55 rfl rfl)⟩⟩
set_option maxRecDepth 20000 in
theorem f_Main_205 : zx_fld "SortedBlocks" 205 4 12 true true := ⟨_, F_Block, 13, t_Block, rfl, by decide, cw_Block, ct_Block, cn_Block, rfl, rfl, rfl, (fun h => by first | rfl | cases h), (fun h => by first | rfl | cases h), rfl, Or.inr ⟨"SortedBlocks", (zx_n2 60 rfl rfl)⟩⟩
set_option maxRecDepth 20000 in
theorem f_BitReader_9 : zx_fld "SortedBlocks$BitReader" 9 2 1 false false := ⟨_, F_BitReader, 3, t_BitReader, rfl, by decide, cw_BitReader, ct_BitReader, cn_BitReader, rfl, rfl, rfl, (fun h => by first | rfl | cases h), (fun h => by first | rfl | cases h), rfl, Or.inl (zx_i1 59 rfl rfl)⟩
set_option maxRecDepth 20000 in
theorem f_BitReader_15 : zx_fld "SortedBlocks$BitReader" 15 2 2 false false := ⟨_, F_BitReader, 3, t_BitReader, rfl, by decide, cw_BitReader, ct_BitReader, cn_BitReader, rfl, rfl, rfl, (fun h => by first | rfl | cases h), (fun h => by first | rfl | cases h), rfl, Or.inl (zx_i1 62 rfl rfl)⟩
set_option maxRecDepth 20000 in
theorem f_BitReader_18 : zx_fld "SortedBlocks$BitReader" 18 2 0 true true := ⟨_, F_BitReader, 3, t_BitReader, rfl, by decide, cw_BitReader, ct_BitReader, cn_BitReader, rfl, rfl, rfl, (fun h => by first | rfl | cases h), (fun h => by first | rfl | cases h), rfl, Or.inl (zx_i1 58 rfl rfl)⟩
set_option maxRecDepth 20000 in
theorem f_BitReader_22 : zx_fld "SortedBlocks$BitReader" 22 11 1 false false := ⟨_, F_Row, 2, t_Row, rfl, by decide, cw_Row, ct_Row, cn_Row, rfl, rfl, rfl, (fun h => by first | rfl | cases h), (fun h => by first | rfl | cases h), rfl, Or.inr ⟨"SortedBlocks", (zx_n1 43 rfl rfl)⟩⟩
set_option maxRecDepth 20000 in
theorem f_BitReader_27 : zx_fld "SortedBlocks$BitReader" 27 11 0 true true := ⟨_, F_Row, 2, t_Row, rfl, by decide, cw_Row, ct_Row, cn_Row, rfl, rfl, rfl, (fun h => by first | rfl | cases h), (fun h => by first | rfl | cases h), rfl, Or.inr ⟨"SortedBlocks", (zx_n1 39 rfl rfl)⟩⟩
set_option maxRecDepth 20000 in
theorem f_BitWriter_7 : zx_fld "SortedBlocks$BitWriter" 7 3 1 false false := ⟨_, F_BitWriter, 3, t_BitWriter, rfl, by decide, cw_BitWriter, ct_BitWriter, cn_BitWriter, rfl, rfl, rfl, (fun h => by first | rfl | cases h), (fun h => by first | rfl | cases h), rfl, Or.inl (zx_i1 211 rfl rfl)⟩
set_option maxRecDepth 20000 in
theorem f_BitWriter_13 : zx_fld "SortedBlocks$BitWriter" 13 3 2 false false := ⟨_, F_BitWriter, 3, t_BitWriter, rfl, by decide, cw_BitWriter, ct_BitWriter, cn_BitWriter, rfl, rfl, rfl, (fun h => by first | rfl | cases h), (fun h => by first | rfl | cases h), rfl, Or.inl (zx_i1 212 rfl rfl)⟩
set_option maxRecDepth 20000 in
theorem f_BitWriter_16 : zx_fld "SortedBlocks$BitWriter" 16 3 0 true true := ⟨_, F_BitWriter, 3, t_BitWriter, rfl, by decide, cw_BitWriter, ct_BitWriter, cn_BitWriter, rfl, rfl, rfl, (fun h => by first | rfl | cases h), (fun h => by first | rfl | cases h), rfl, Or.inl (zx_i1 210 rfl rfl)⟩
set_option maxRecDepth 20000 in
theorem f_Block_18 : zx_fld "SortedBlocks$Block" 18 4 2 false false := ⟨_, F_Block, 13, t_Block, rfl, by decide, cw_Block, ct_Block, cn_Block, rfl, rfl, rfl, (fun h => by first | rfl | cases h), (fun h => by first | rfl | cases h), rfl, Or.inl (zx_i2 12 rfl rfl)⟩
set_option maxRecDepth 20000 in
theorem f_Block_21 : zx_fld "SortedBlocks$Block" 21 4 3 true true := ⟨_, F_Block, 13, t_Block, rfl, by decide, cw_Block, ct_Block, cn_Block, rfl, rfl, rfl, (fun h => by first | rfl | cases h), (fun h => by first | rfl | cases h), rfl, Or.inl (zx_i2 16 rfl rfl)⟩
set_option maxRecDepth 20000 in
theorem f_Block_25 : zx_fld "SortedBlocks$Block" 25 4 4 true true := ⟨_, F_Block, 13, t_Block, rfl, by decide, cw_Block, ct_Block, cn_Block, rfl, rfl, rfl, (fun h => by first | rfl | cases h), (fun h => by first | rfl | cases h), rfl, Or.inl (zx_i2 19 rfl rfl)⟩
set_option maxRecDepth 20000 in
theorem f_Block_28 : zx_fld "SortedBlocks$Block" 28 4 5 false false := ⟨_, F_Block, 13, t_Block, rfl, by decide, cw_Block, ct_Block, cn_Block, rfl, rfl, rfl, (fun h => by first | rfl | cases h), (fun h => by first | rfl | cases h), rfl, Or.inl (zx_i2 23 rfl rfl)⟩
set_option maxRecDepth 20000 in
theorem f_Block_31 : zx_fld "SortedBlocks$Block" 31 4 6 true true := ⟨_, F_Block, 13, t_Block, rfl, by decide, cw_Block, ct_Block, cn_Block, rfl, rfl, rfl, (fun h => by first | rfl | cases h), (fun h => by first | rfl | cases h), rfl, Or.inl (zx_i2 27 rfl rfl)⟩
set_option maxRecDepth 20000 in
theorem f_Block_34 : zx_fld "SortedBlocks$Block" 34 4 7 false false := ⟨_, F_Block, 13, t_Block, rfl, by decide, cw_Block, ct_Block, cn_Block, rfl, rfl, rfl, (fun h => by first | rfl | cases h), (fun h => by first | rfl | cases h), rfl, Or.inl (zx_i2 31 rfl rfl)⟩
set_option maxRecDepth 20000 in
theorem f_Block_37 : zx_fld "SortedBlocks$Block" 37 4 8 true true := ⟨_, F_Block, 13, t_Block, rfl, by decide, cw_Block, ct_Block, cn_Block, rfl, rfl, rfl, (fun h => by first | rfl | cases h), (fun h => by first | rfl | cases h), rfl, Or.inl (zx_i2 37 rfl rfl)⟩
set_option maxRecDepth 20000 in
theorem f_Block_48 : zx_fld "SortedBlocks$Block" 48 4 11 false false := ⟨_, F_Block, 13, t_Block, rfl, by decide, cw_Block, ct_Block, cn_Block, rfl, rfl, rfl, (fun h => by first | rfl | cases h), (fun h => by first | rfl | cases h), rfl, Or.inl (zx_i2 51 rfl rfl)⟩
set_option maxRecDepth 20000 in
theorem f_Block_51 : zx_fld "SortedBlocks$Block" 51 4 12 true true := ⟨_, F_Block, 13, t_Block, rfl, by decide, cw_Block, ct_Block, cn_Block, rfl, rfl, rfl, (fun h => by first | rfl | cases h), (fun h => by first | rfl | cases h), rfl, Or.inl (zx_i2 56 rfl rfl)⟩
set_option maxRecDepth 20000 in
theorem f_BlockMaker_9 : zx_fld "SortedBlocks$BlockMaker" 9 5 0 true true := ⟨_, F_BlockMaker, 4, t_BlockMaker, rfl, by decide, cw_BlockMaker, ct_BlockMaker, cn_BlockMaker, rfl, rfl, rfl, (fun h => by first | rfl | cases h), (fun h => by first | rfl | cases h), rfl, Or.inl (zx_i1 182 rfl rfl)⟩
set_option maxRecDepth 20000 in
theorem f_BlockMaker_15 : zx_fld "SortedBlocks$BlockMaker" 15 5 1 true true := ⟨_, F_BlockMaker, 4, t_BlockMaker, rfl, by decide, cw_BlockMaker, ct_BlockMaker, cn_BlockMaker, rfl, rfl, rfl, (fun h => by first | rfl | cases h), (fun h => by first | rfl | cases h), rfl, Or.inl (zx_i1 183 rfl rfl)⟩
set_option maxRecDepth 20000 in
theorem f_BlockMaker_21 : zx_fld "SortedBlocks$BlockMaker" 21 5 2 true true := ⟨_, F_BlockMaker, 4, t_BlockMaker, rfl, by decide, cw_BlockMaker, ct_BlockMaker, cn_BlockMaker, rfl, rfl, rfl, (fun h => by first | rfl | cases h), (fun h => by first | rfl | cases h), rfl, Or.inl (zx_i1 184 rfl rfl)⟩
set_option maxRecDepth 20000 in
theorem f_BlockMaker_28 : zx_fld "SortedBlocks$BlockMaker" 28 5 3 true true := ⟨_, F_BlockMaker, 4, t_BlockMaker, rfl, by decide, cw_BlockMaker, ct_BlockMaker, cn_BlockMaker, rfl, rfl, rfl, (fun h => by first | rfl | cases h), (fun h => by first | rfl | cases h), rfl, Or.inl (zx_i1 185 rfl rfl)⟩
set_option maxRecDepth 20000 in
theorem f_BlockMaker_40 : zx_fld "SortedBlocks$BlockMaker" 40 4 0 false false := ⟨_, F_Block, 13, t_Block, rfl, by decide, cw_Block, ct_Block, cn_Block, rfl, rfl, rfl, (fun h => by first | rfl | cases h), (fun h => by first | rfl | cases h), rfl, Or.inr ⟨"SortedBlocks", (zx_n2 3 rfl rfl)⟩⟩
set_option maxRecDepth 20000 in
theorem f_BlockMaker_62 : zx_fld "SortedBlocks$BlockMaker" 62 4 2 false false := ⟨_, F_Block, 13, t_Block, rfl, by decide, cw_Block, ct_Block, cn_Block, rfl, rfl, rfl, (fun h => by first | rfl | cases h), (fun h => by first | rfl | cases h), rfl, Or.inr ⟨"SortedBlocks", (zx_n2 13 rfl rfl)⟩⟩
set_option maxRecDepth 20000 in
theorem f_BlockMaker_65 : zx_fld "SortedBlocks$BlockMaker" 65 11 1 false false := ⟨_, F_Row, 2, t_Row, rfl, by decide, cw_Row, ct_Row, cn_Row, rfl, rfl, rfl, (fun h => by first | rfl | cases h), (fun h => by first | rfl | cases h), rfl, Or.inr ⟨"SortedBlocks", (zx_n1 45 rfl rfl)⟩⟩
set_option maxRecDepth 20000 in
theorem f_BlockMaker_76 : zx_fld "SortedBlocks$BlockMaker" 76 4 3 true true := ⟨_, F_Block, 13, t_Block, rfl, by decide, cw_Block, ct_Block, cn_Block, rfl, rfl, rfl, (fun h => by first | rfl | cases h), (fun h => by first | rfl | cases h), rfl, Or.inr ⟨"SortedBlocks", (zx_n2 17 rfl rfl)⟩⟩
set_option maxRecDepth 20000 in
theorem f_BlockMaker_89 : zx_fld "SortedBlocks$BlockMaker" 89 4 1 false false := ⟨_, F_Block, 13, t_Block, rfl, by decide, cw_Block, ct_Block, cn_Block, rfl, rfl, rfl, (fun h => by first | rfl | cases h), (fun h => by first | rfl | cases h), rfl, Or.inr ⟨"SortedBlocks", (zx_n2 10 rfl rfl)⟩⟩
set_option maxRecDepth 20000 in
theorem f_BlockMaker_92 : zx_fld "SortedBlocks$BlockMaker" 92 4 4 true true := ⟨_, F_Block, 13, t_Block, rfl, by decide, cw_Block, ct_Block, cn_Block, rfl, rfl, rfl, (fun h => by first | rfl | cases h), (fun h => by first | rfl | cases h), rfl, Or.inr ⟨"SortedBlocks", (zx_n2 20 rfl rfl)⟩⟩
set_option maxRecDepth 20000 in
theorem f_BlockMaker_101 : zx_fld "SortedBlocks$BlockMaker" 101 4 5 false false := ⟨_, F_Block, 13, t_Block, rfl, by decide, cw_Block, ct_Block, cn_Block, rfl, rfl, rfl, (fun h => by first | rfl | cases h), (fun h => by first | rfl | cases h), rfl, Or.inr ⟨"SortedBlocks", (zx_n2 26 rfl rfl)⟩⟩
set_option maxRecDepth 20000 in
theorem f_BlockMaker_107 : zx_fld "SortedBlocks$BlockMaker" 107 4 6 true true := ⟨_, F_Block, 13, t_Block, rfl, by decide, cw_Block, ct_Block, cn_Block, rfl, rfl, rfl, (fun h => by first | rfl | cases h), (fun h => by first | rfl | cases h), rfl, Or.inr ⟨"SortedBlocks", (zx_n2 29 rfl rfl)⟩⟩
set_option maxRecDepth 20000 in
theorem f_BlockMaker_113 : zx_fld "SortedBlocks$BlockMaker" 113 4 7 false false := ⟨_, F_Block, 13, t_Block, rfl, by decide, cw_Block, ct_Block, cn_Block, rfl, rfl, rfl, (fun h => by first | rfl | cases h), (fun h => by first | rfl | cases h), rfl, Or.inr ⟨"SortedBlocks", (zx_n2 34 rfl rfl)⟩⟩
set_option maxRecDepth 20000 in
theorem f_BlockReader_12 : zx_fld "SortedBlocks$BlockReader" 12 6 1 true true := ⟨_, F_BlockReader, 6, t_BlockReader, rfl, by decide, cw_BlockReader, ct_BlockReader, cn_BlockReader, rfl, rfl, rfl, (fun h => by first | rfl | cases h), (fun h => by first | rfl | cases h), rfl, Or.inl (zx_i1 115 rfl rfl)⟩
set_option maxRecDepth 20000 in
theorem f_BlockReader_20 : zx_fld "SortedBlocks$BlockReader" 20 6 2 true true := ⟨_, F_BlockReader, 6, t_BlockReader, rfl, by decide, cw_BlockReader, ct_BlockReader, cn_BlockReader, rfl, rfl, rfl, (fun h => by first | rfl | cases h), (fun h => by first | rfl | cases h), rfl, Or.inl (zx_i1 116 rfl rfl)⟩
set_option maxRecDepth 20000 in
theorem f_BlockReader_24 : zx_fld "SortedBlocks$BlockReader" 24 6 3 true true := ⟨_, F_BlockReader, 6, t_BlockReader, rfl, by decide, cw_BlockReader, ct_BlockReader, cn_BlockReader, rfl, rfl, rfl, (fun h => by first | rfl | cases h), (fun h => by first | rfl | cases h), rfl, Or.inl (zx_i1 117 rfl rfl)⟩
set_option maxRecDepth 20000 in
theorem f_BlockReader_28 : zx_fld "SortedBlocks$BlockReader" 28 6 4 true true := ⟨_, F_BlockReader, 6, t_BlockReader, rfl, by decide, cw_BlockReader, ct_BlockReader, cn_BlockReader, rfl, rfl, rfl, (fun h => by first | rfl | cases h), (fun h => by first | rfl | cases h), rfl, Or.inl (zx_i1 118 rfl rfl)⟩
set_option maxRecDepth 20000 in
theorem f_BlockReader_31 : zx_fld "SortedBlocks$BlockReader" 31 6 5 false false := ⟨_, F_BlockReader, 6, t_BlockReader, rfl, by decide, cw_BlockReader, ct_BlockReader, cn_BlockReader, rfl, rfl, rfl, (fun h => by first | rfl | cases h), (fun h => by first | rfl | cases h), rfl, Or.inl (zx_i1 119 rfl rfl)⟩
set_option maxRecDepth 20000 in
theorem f_BlockReader_35 : zx_fld "SortedBlocks$BlockReader" 35 6 0 true true := ⟨_, F_BlockReader, 6, t_BlockReader, rfl, by decide, cw_BlockReader, ct_BlockReader, cn_BlockReader, rfl, rfl, rfl, (fun h => by first | rfl | cases h), (fun h => by first | rfl | cases h), rfl, Or.inl (zx_i1 114 rfl rfl)⟩
set_option maxRecDepth 20000 in
theorem f_BlockReader_42 : zx_fld "SortedBlocks$BlockReader" 42 2 1 false false := ⟨_, F_BitReader, 3, t_BitReader, rfl, by decide, cw_BitReader, ct_BitReader, cn_BitReader, rfl, rfl, rfl, (fun h => by first | rfl | cases h), (fun h => by first | rfl | cases h), rfl, Or.inr ⟨"SortedBlocks", (zx_n1 60 rfl rfl)⟩⟩
set_option maxRecDepth 20000 in
theorem f_BlockReader_47 : zx_fld "SortedBlocks$BlockReader" 47 11 1 false false := ⟨_, F_Row, 2, t_Row, rfl, by decide, cw_Row, ct_Row, cn_Row, rfl, rfl, rfl, (fun h => by first | rfl | cases h), (fun h => by first | rfl | cases h), rfl, Or.inr ⟨"SortedBlocks", (zx_n1 42 rfl rfl)⟩⟩
set_option maxRecDepth 20000 in
theorem f_BlockReader_83 : zx_fld "SortedBlocks$BlockReader" 83 4 0 false false := ⟨_, F_Block, 13, t_Block, rfl, by decide, cw_Block, ct_Block, cn_Block, rfl, rfl, rfl, (fun h => by first | rfl | cases h), (fun h => by first | rfl | cases h), rfl, Or.inr ⟨"SortedBlocks", (zx_n2 4 rfl rfl)⟩⟩
set_option maxRecDepth 20000 in
theorem f_BlockReader_88 : zx_fld "SortedBlocks$BlockReader" 88 2 2 false false := ⟨_, F_BitReader, 3, t_BitReader, rfl, by decide, cw_BitReader, ct_BitReader, cn_BitReader, rfl, rfl, rfl, (fun h => by first | rfl | cases h), (fun h => by first | rfl | cases h), rfl, Or.inr ⟨"SortedBlocks", (zx_n1 63 rfl rfl)⟩⟩
set_option maxRecDepth 20000 in
theorem f_BlockReader_98 : zx_fld "SortedBlocks$BlockReader" 98 4 1 false false := ⟨_, F_Block, 13, t_Block, rfl, by decide, cw_Block, ct_Block, cn_Block, rfl, rfl, rfl, (fun h => by first | rfl | cases h), (fun h => by first | rfl | cases h), rfl, Or.inr ⟨"SortedBlocks", (zx_n2 8 rfl rfl)⟩⟩
set_option maxRecDepth 20000 in
theorem f_BlockReader_101 : zx_fld "SortedBlocks$BlockReader" 101 4 5 false false := ⟨_, F_Block, 13, t_Block, rfl, by decide, cw_Block, ct_Block, cn_Block, rfl, rfl, rfl, (fun h => by first | rfl | cases h), (fun h => by first | rfl | cases h), rfl, Or.inr ⟨"SortedBlocks", (zx_n2 24 rfl rfl)⟩⟩
set_option maxRecDepth 20000 in
theorem f_BlockReader_114 : zx_fld "SortedBlocks$BlockReader" 114 4 9 false false := ⟨_, F_Block, 13, t_Block, rfl, by decide, cw_Block, ct_Block, cn_Block, rfl, rfl, rfl, (fun h => by first | rfl | cases h), (fun h => by first | rfl | cases h), rfl, Or.inr ⟨"SortedBlocks", (zx_n2 44 rfl rfl)⟩⟩
set_option maxRecDepth 20000 in
theorem f_BlockReader_117 : zx_fld "SortedBlocks$BlockReader" 117 4 11 false false := ⟨_, F_Block, 13, t_Block, rfl, by decide, cw_Block, ct_Block, cn_Block, rfl, rfl, rfl, (fun h => by first | rfl | cases h), (fun h => by first | rfl | cases h), rfl, Or.inr ⟨"SortedBlocks", (zx_n2 54 rfl rfl)⟩⟩
set_option maxRecDepth 20000 in
theorem f_BlockReader_126 : zx_fld "SortedBlocks$BlockReader" 126 4 12 true true := ⟨_, F_Block, 13, t_Block, rfl, by decide, cw_Block, ct_Block, cn_Block, rfl, rfl, rfl, (fun h => by first | rfl | cases h), (fun h => by first | rfl | cases h), rfl, Or.inr ⟨"SortedBlocks", (zx_n2 59 rfl rfl)⟩⟩
set_option maxRecDepth 20000 in
theorem f_BlockReader_139 : zx_fld "SortedBlocks$BlockReader" 139 4 10 true true := ⟨_, F_Block, 13, t_Block, rfl, by decide, cw_Block, ct_Block, cn_Block, rfl, rfl, rfl, (fun h => by first | rfl | cases h), (fun h => by first | rfl | cases h), rfl, Or.inr ⟨"SortedBlocks", (zx_n2 49 rfl rfl)⟩⟩
set_option maxRecDepth 20000 in
theorem f_BlockReader_161 : zx_fld "SortedBlocks$BlockReader" 161 4 6 true true := ⟨_, F_Block, 13, t_Block, rfl, by decide, cw_Block, ct_Block, cn_Block, rfl, rfl, rfl, (fun h => by first | rfl | cases h), (fun h => by first | rfl | cases h), rfl, Or.inr ⟨"SortedBlocks", (zx_n2 30 rfl rfl)⟩⟩
set_option maxRecDepth 20000 in
theorem f_BlockReader_165 : zx_fld "SortedBlocks$BlockReader" 165 4 7 false false := ⟨_, F_Block, 13, t_Block, rfl, by decide, cw_Block, ct_Block, cn_Block, rfl, rfl, rfl, (fun h => by first | rfl | cases h), (fun h => by first | rfl | cases h), rfl, Or.inr ⟨"SortedBlocks", (zx_n2 35 rfl rfl)⟩⟩
set_option maxRecDepth 20000 in
theorem f_BlockReader_168 : zx_fld "SortedBlocks$BlockReader" 168 4 2 false false := ⟨_, F_Block, 13, t_Block, rfl, by decide, cw_Block, ct_Block, cn_Block, rfl, rfl, rfl, (fun h => by first | rfl | cases h), (fun h => by first | rfl | cases h), rfl, Or.inr ⟨"SortedBlocks", (zx_n2 14 rfl rfl)⟩⟩
set_option maxRecDepth 20000 in
theorem f_BlockReader_197 : zx_fld "SortedBlocks$BlockReader" 197 4 3 true true := ⟨_, F_Block, 13, t_Block, rfl, by decide, cw_Block, ct_Block, cn_Block, rfl, rfl, rfl, (fun h => by first | rfl | cases h), (fun h => by first | rfl | cases h), rfl, Or.inr ⟨"SortedBlocks", (zx_n2 18 rfl rfl)⟩⟩
set_option maxRecDepth 20000 in
theorem f_BlockReader_200 : zx_fld "SortedBlocks$BlockReader" 200 4 4 true true := ⟨_, F_Block, 13, t_Block, rfl, by decide, cw_Block, ct_Block, cn_Block, rfl, rfl, rfl, (fun h => by first | rfl | cases h), (fun h => by first | rfl | cases h), rfl, Or.inr ⟨"SortedBlocks", (zx_n2 22 rfl rfl)⟩⟩
set_option maxRecDepth 20000 in
theorem f_BlockReader_211 : zx_fld "SortedBlocks$BlockReader" 211 11 0 true true := ⟨_, F_Row, 2, t_Row, rfl, by decide, cw_Row, ct_Row, cn_Row, rfl, rfl, rfl, (fun h => by first | rfl | cases h), (fun h => by first | rfl | cases h), rfl, Or.inr ⟨"SortedBlocks", (zx_n1 40 rfl rfl)⟩⟩
set_option maxRecDepth 20000 in
theorem f_BlockWriter_9 : zx_fld "SortedBlocks$BlockWriter" 9 7 1 true true := ⟨_, F_BlockWriter, 4, t_BlockWriter, rfl, by decide, cw_BlockWriter, ct_BlockWriter, cn_BlockWriter, rfl, rfl, rfl, (fun h => by first | rfl | cases h), (fun h => by first | rfl | cases h), rfl, Or.inl (zx_i1 222 rfl rfl)⟩
set_option maxRecDepth 20000 in
theorem f_BlockWriter_18 : zx_fld "SortedBlocks$BlockWriter" 18 7 2 true true := ⟨_, F_BlockWriter, 4, t_BlockWriter, rfl, by decide, cw_BlockWriter, ct_BlockWriter, cn_BlockWriter, rfl, rfl, rfl, (fun h => by first | rfl | cases h), (fun h => by first | rfl | cases h), rfl, Or.inl (zx_i1 223 rfl rfl)⟩
set_option maxRecDepth 20000 in
theorem f_BlockWriter_24 : zx_fld "SortedBlocks$BlockWriter" 24 7 3 true true := ⟨_, F_BlockWriter, 4, t_BlockWriter, rfl, by decide, cw_BlockWriter, ct_BlockWriter, cn_BlockWriter, rfl, rfl, rfl, (fun h => by first | rfl | cases h), (fun h => by first | rfl | cases h), rfl, Or.inl (zx_i1 224 rfl rfl)⟩
set_option maxRecDepth 20000 in
theorem f_BlockWriter_33 : zx_fld "SortedBlocks$BlockWriter" 33 7 0 true true := ⟨_, F_BlockWriter, 4, t_BlockWriter, rfl, by decide, cw_BlockWriter, ct_BlockWriter, cn_BlockWriter, rfl, rfl, rfl, (fun h => by first | rfl | cases h), (fun h => by first | rfl | cases h), rfl, Or.inl (zx_i1 221 rfl rfl)⟩
set_option maxRecDepth 20000 in
theorem f_BlockWriter_49 : zx_fld "SortedBlocks$BlockWriter" 49 4 0 false false := ⟨_, F_Block, 13, t_Block, rfl, by decide, cw_Block, ct_Block, cn_Block, rfl, rfl, rfl, (fun h => by first | rfl | cases h), (fun h => by first | rfl | cases h), rfl, Or.inr ⟨"SortedBlocks", (zx_n2 5 rfl rfl)⟩⟩
set_option maxRecDepth 20000 in
theorem f_BlockWriter_55 : zx_fld "SortedBlocks$BlockWriter" 55 4 1 false false := ⟨_, F_Block, 13, t_Block, rfl, by decide, cw_Block, ct_Block, cn_Block, rfl, rfl, rfl, (fun h => by first | rfl | cases h), (fun h => by first | rfl | cases h), rfl, Or.inr ⟨"SortedBlocks", (zx_n2 9 rfl rfl)⟩⟩
set_option maxRecDepth 20000 in
theorem f_BlockWriter_62 : zx_fld "SortedBlocks$BlockWriter" 62 4 9 false false := ⟨_, F_Block, 13, t_Block, rfl, by decide, cw_Block, ct_Block, cn_Block, rfl, rfl, rfl, (fun h => by first | rfl | cases h), (fun h => by first | rfl | cases h), rfl, Or.inr ⟨"SortedBlocks", (zx_n2 43 rfl rfl)⟩⟩
set_option maxRecDepth 20000 in
theorem f_BlockWriter_65 : zx_fld "SortedBlocks$BlockWriter" 65 4 11 false false := ⟨_, F_Block, 13, t_Block, rfl, by decide, cw_Block, ct_Block, cn_Block, rfl, rfl, rfl, (fun h => by first | rfl | cases h), (fun h => by first | rfl | cases h), rfl, Or.inr ⟨"SortedBlocks", (zx_n2 53 rfl rfl)⟩⟩
set_option maxRecDepth 20000 in
theorem f_BlockWriter_71 : zx_fld "SortedBlocks$BlockWriter" 71 4 10 true true := ⟨_, F_Block, 13, t_Block, rfl, by decide, cw_Block, ct_Block, cn_Block, rfl, rfl, rfl, (fun h => by first | rfl | cases h), (fun h => by first | rfl | cases h), rfl, Or.inr ⟨"SortedBlocks", (zx_n2 48 rfl rfl)⟩⟩
set_option maxRecDepth 20000 in
theorem f_BlockWriter_94 : zx_fld "SortedBlocks$BlockWriter" 94 4 5 false false := ⟨_, F_Block, 13, t_Block, rfl, by decide, cw_Block, ct_Block, cn_Block, rfl, rfl, rfl, (fun h => by first | rfl | cases h), (fun h => by first | rfl | cases h), rfl, Or.inr ⟨"SortedBlocks", (zx_n2 25 rfl rfl)⟩⟩
set_option maxRecDepth 20000 in
theorem f_BlockWriter_97 : zx_fld "SortedBlocks$BlockWriter" 97 4 6 true true := ⟨_, F_Block, 13, t_Block, rfl, by decide, cw_Block, ct_Block, cn_Block, rfl, rfl, rfl, (fun h => by first | rfl | cases h), (fun h => by first | rfl | cases h), rfl, Or.inr ⟨"SortedBlocks", (zx_n2 28 rfl rfl)⟩⟩
set_option maxRecDepth 20000 in
theorem f_BlockWriter_107 : zx_fld "SortedBlocks$BlockWriter" 107 4 12 true true := ⟨_, F_Block, 13, t_Block, rfl, by decide, cw_Block, ct_Block, cn_Block, rfl, rfl, rfl, (fun h => by first | rfl | cases h), (fun h => by first | rfl | cases h), rfl, Or.inr ⟨"SortedBlocks", (zx_n2 58 rfl rfl)⟩⟩
set_option maxRecDepth 20000 in
theorem f_BlockWriter_118 : zx_fld "SortedBlocks$BlockWriter" 118 4 7 false false := ⟨_, F_Block, 13, t_Block, rfl, by decide, cw_Block, ct_Block, cn_Block, rfl, rfl, rfl, (fun h => by first | rfl | cases h), (fun h => by first | rfl | cases h), rfl, Or.inr ⟨"SortedBlocks", (zx_n2 33 rfl rfl)⟩⟩
set_option maxRecDepth 20000 in
theorem f_BlockWriter_124 : zx_fld "SortedBlocks$BlockWriter" 124 4 8 true true := ⟨_, F_Block, 13, t_Block, rfl, by decide, cw_Block, ct_Block, cn_Block, rfl, rfl, rfl, (fun h => by first | rfl | cases h), (fun h => by first | rfl | cases h), rfl, Or.inr ⟨"SortedBlocks", (zx_n2 39 rfl rfl)⟩⟩
set_option maxRecDepth 20000 in
theorem f_Codes_9 : zx_fld "SortedBlocks$Codes" 9 8 0 true true := ⟨_, F_Codes, 5, t_Codes, rfl, by decide, cw_Codes, ct_Codes, cn_Codes, rfl, rfl, rfl, (fun h => by first | rfl | cases h), (fun h => by first | rfl | cases h), rfl, Or.inl (zx_i1 98 rfl rfl)⟩
set_option maxRecDepth 20000 in
theorem f_Codes_15 : zx_fld "SortedBlocks$Codes" 15 8 1 true true := ⟨_, F_Codes, 5, t_Codes, rfl, by decide, cw_Codes, ct_Codes, cn_Codes, rfl, rfl, rfl, (fun h => by first | rfl | cases h), (fun h => by first | rfl | cases h), rfl, Or.inl (zx_i1 99 rfl rfl)⟩
set_option maxRecDepth 20000 in
theorem f_Codes_18 : zx_fld "SortedBlocks$Codes" 18 8 2 true true := ⟨_, F_Codes, 5, t_Codes, rfl, by decide, cw_Codes, ct_Codes, cn_Codes, rfl, rfl, rfl, (fun h => by first | rfl | cases h), (fun h => by first | rfl | cases h), rfl, Or.inl (zx_i1 100 rfl rfl)⟩
set_option maxRecDepth 20000 in
theorem f_Codes_21 : zx_fld "SortedBlocks$Codes" 21 8 3 true true := ⟨_, F_Codes, 5, t_Codes, rfl, by decide, cw_Codes, ct_Codes, cn_Codes, rfl, rfl, rfl, (fun h => by first | rfl | cases h), (fun h => by first | rfl | cases h), rfl, Or.inl (zx_i1 101 rfl rfl)⟩
set_option maxRecDepth 20000 in
theorem f_Codes_24 : zx_fld "SortedBlocks$Codes" 24 8 4 true true := ⟨_, F_Codes, 5, t_Codes, rfl, by decide, cw_Codes, ct_Codes, cn_Codes, rfl, rfl, rfl, (fun h => by first | rfl | cases h), (fun h => by first | rfl | cases h), rfl, Or.inl (zx_i1 102 rfl rfl)⟩
set_option maxRecDepth 20000 in
theorem f_MoveList_9 : zx_fld "SortedBlocks$MoveList" 9 9 0 true true := ⟨_, F_MoveList, 2, t_MoveList, rfl, by decide, cw_MoveList, ct_MoveList, cn_MoveList, rfl, rfl, rfl, (fun h => by first | rfl | cases h), (fun h => by first | rfl | cases h), rfl, Or.inl (zx_i1 84 rfl rfl)⟩
set_option maxRecDepth 20000 in
theorem f_MoveList_15 : zx_fld "SortedBlocks$MoveList" 15 9 1 false false := ⟨_, F_MoveList, 2, t_MoveList, rfl, by decide, cw_MoveList, ct_MoveList, cn_MoveList, rfl, rfl, rfl, (fun h => by first | rfl | cases h), (fun h => by first | rfl | cases h), rfl, Or.inl (zx_i1 85 rfl rfl)⟩
set_option maxRecDepth 20000 in
theorem f_Picker_12 : zx_fld "SortedBlocks$Picker" 12 10 0 true true := ⟨_, F_Picker, 2, t_Picker, rfl, by decide, cw_Picker, ct_Picker, cn_Picker, rfl, rfl, rfl, (fun h => by first | rfl | cases h), (fun h => by first | rfl | cases h), rfl, Or.inl (zx_i1 175 rfl rfl)⟩
set_option maxRecDepth 20000 in
theorem f_Picker_18 : zx_fld "SortedBlocks$Picker" 18 10 1 true true := ⟨_, F_Picker, 2, t_Picker, rfl, by decide, cw_Picker, ct_Picker, cn_Picker, rfl, rfl, rfl, (fun h => by first | rfl | cases h), (fun h => by first | rfl | cases h), rfl, Or.inl (zx_i1 176 rfl rfl)⟩
set_option maxRecDepth 20000 in
theorem f_Picker_22 : zx_fld "SortedBlocks$Picker" 22 4 7 false false := ⟨_, F_Block, 13, t_Block, rfl, by decide, cw_Block, ct_Block, cn_Block, rfl, rfl, rfl, (fun h => by first | rfl | cases h), (fun h => by first | rfl | cases h), rfl, Or.inr ⟨"SortedBlocks", (zx_n2 32 rfl rfl)⟩⟩
set_option maxRecDepth 20000 in
theorem f_Picker_28 : zx_fld "SortedBlocks$Picker" 28 4 11 false false := ⟨_, F_Block, 13, t_Block, rfl, by decide, cw_Block, ct_Block, cn_Block, rfl, rfl, rfl, (fun h => by first | rfl | cases h), (fun h => by first | rfl | cases h), rfl, Or.inr ⟨"SortedBlocks", (zx_n2 52 rfl rfl)⟩⟩
set_option maxRecDepth 20000 in
theorem f_Picker_31 : zx_fld "SortedBlocks$Picker" 31 4 9 false false := ⟨_, F_Block, 13, t_Block, rfl, by decide, cw_Block, ct_Block, cn_Block, rfl, rfl, rfl, (fun h => by first | rfl | cases h), (fun h => by first | rfl | cases h), rfl, Or.inr ⟨"SortedBlocks", (zx_n2 42 rfl rfl)⟩⟩
set_option maxRecDepth 20000 in
theorem f_Picker_34 : zx_fld "SortedBlocks$Picker" 34 4 12 true true := ⟨_, F_Block, 13, t_Block, rfl, by decide, cw_Block, ct_Block, cn_Block, rfl, rfl, rfl, (fun h => by first | rfl | cases h), (fun h => by first | rfl | cases h), rfl, Or.inr ⟨"SortedBlocks", (zx_n2 57 rfl rfl)⟩⟩
set_option maxRecDepth 20000 in
theorem f_Picker_45 : zx_fld "SortedBlocks$Picker" 45 4 10 true true := ⟨_, F_Block, 13, t_Block, rfl, by decide, cw_Block, ct_Block, cn_Block, rfl, rfl, rfl, (fun h => by first | rfl | cases h), (fun h => by first | rfl | cases h), rfl, Or.inr ⟨"SortedBlocks", (zx_n2 47 rfl rfl)⟩⟩
set_option maxRecDepth 20000 in
theorem f_Picker_67 : zx_fld "SortedBlocks$Picker" 67 4 8 true true := ⟨_, F_Block, 13, t_Block, rfl, by decide, cw_Block, ct_Block, cn_Block, rfl, rfl, rfl, (fun h => by first | rfl | cases h), (fun h => by first | rfl | cases h), rfl, Or.inr ⟨"SortedBlocks", (zx_n2 38 rfl rfl)⟩⟩
set_option maxRecDepth 20000 in
theorem f_Row_7 : zx_fld "SortedBlocks$Row" 7 11 1 false false := ⟨_, F_Row, 2, t_Row, rfl, by decide, cw_Row, ct_Row, cn_Row, rfl, rfl, rfl, (fun h => by first | rfl | cases h), (fun h => by first | rfl | cases h), rfl, Or.inl (zx_i1 41 rfl rfl)⟩
set_option maxRecDepth 20000 in
theorem f_Row_13 : zx_fld "SortedBlocks$Row" 13 11 0 true true := ⟨_, F_Row, 2, t_Row, rfl, by decide, cw_Row, ct_Row, cn_Row, rfl, rfl, rfl, (fun h => by first | rfl | cases h), (fun h => by first | rfl | cases h), rfl, Or.inl (zx_i1 38 rfl rfl)⟩
set_option maxRecDepth 20000 in
theorem f_Trees_11 : zx_fld "SortedBlocks$Trees" 11 12 0 true true := ⟨_, F_Trees, 7, t_Trees, rfl, by decide, cw_Trees, ct_Trees, cn_Trees, rfl, rfl, rfl, (fun h => by first | rfl | cases h), (fun h => by first | rfl | cases h), rfl, Or.inl (zx_i1 153 rfl rfl)⟩
set_option maxRecDepth 20000 in
theorem f_Trees_15 : zx_fld "SortedBlocks$Trees" 15 12 1 true true := ⟨_, F_Trees, 7, t_Trees, rfl, by decide, cw_Trees, ct_Trees, cn_Trees, rfl, rfl, rfl, (fun h => by first | rfl | cases h), (fun h => by first | rfl | cases h), rfl, Or.inl (zx_i1 154 rfl rfl)⟩
set_option maxRecDepth 20000 in
theorem f_Trees_18 : zx_fld "SortedBlocks$Trees" 18 12 2 true true := ⟨_, F_Trees, 7, t_Trees, rfl, by decide, cw_Trees, ct_Trees, cn_Trees, rfl, rfl, rfl, (fun h => by first | rfl | cases h), (fun h => by first | rfl | cases h), rfl, Or.inl (zx_i1 155 rfl rfl)⟩
set_option maxRecDepth 20000 in
theorem f_Trees_21 : zx_fld "SortedBlocks$Trees" 21 12 3 true true := ⟨_, F_Trees, 7, t_Trees, rfl, by decide, cw_Trees, ct_Trees, cn_Trees, rfl, rfl, rfl, (fun h => by first | rfl | cases h), (fun h => by first | rfl | cases h), rfl, Or.inl (zx_i1 156 rfl rfl)⟩
set_option maxRecDepth 20000 in
theorem f_Trees_24 : zx_fld "SortedBlocks$Trees" 24 12 4 false false := ⟨_, F_Trees, 7, t_Trees, rfl, by decide, cw_Trees, ct_Trees, cn_Trees, rfl, rfl, rfl, (fun h => by first | rfl | cases h), (fun h => by first | rfl | cases h), rfl, Or.inl (zx_i1 157 rfl rfl)⟩
set_option maxRecDepth 20000 in
theorem f_Trees_28 : zx_fld "SortedBlocks$Trees" 28 12 5 false false := ⟨_, F_Trees, 7, t_Trees, rfl, by decide, cw_Trees, ct_Trees, cn_Trees, rfl, rfl, rfl, (fun h => by first | rfl | cases h), (fun h => by first | rfl | cases h), rfl, Or.inl (zx_i1 158 rfl rfl)⟩
set_option maxRecDepth 20000 in
theorem f_Trees_31 : zx_fld "SortedBlocks$Trees" 31 12 6 false false := ⟨_, F_Trees, 7, t_Trees, rfl, by decide, cw_Trees, ct_Trees, cn_Trees, rfl, rfl, rfl, (fun h => by first | rfl | cases h), (fun h => by first | rfl | cases h), rfl, Or.inl (zx_i1 159 rfl rfl)⟩
set_option maxRecDepth 20000 in
theorem f_Mod_7 : zx_fld "SortedBlocksModel" 7 1 2 true true := ⟨_, F_Mod, 46, t_Mod, rfl, by decide, cw_Mod, ct_Mod, cn_Mod, rfl, rfl, rfl, (fun h => by first | rfl | cases h), (fun h => by first | rfl | cases h), rfl, Or.inl (zx_i5 2 rfl rfl)⟩
set_option maxRecDepth 20000 in
theorem f_Mod_13 : zx_fld "SortedBlocksModel" 13 1 4 true true := ⟨_, F_Mod, 46, t_Mod, rfl, by decide, cw_Mod, ct_Mod, cn_Mod, rfl, rfl, rfl, (fun h => by first | rfl | cases h), (fun h => by first | rfl | cases h), rfl, Or.inl (zx_i5 4 rfl rfl)⟩
set_option maxRecDepth 20000 in
theorem f_Mod_16 : zx_fld "SortedBlocksModel" 16 1 6 true true := ⟨_, F_Mod, 46, t_Mod, rfl, by decide, cw_Mod, ct_Mod, cn_Mod, rfl, rfl, rfl, (fun h => by first | rfl | cases h), (fun h => by first | rfl | cases h), rfl, Or.inl (zx_i5 6 rfl rfl)⟩
set_option maxRecDepth 20000 in
theorem f_Mod_19 : zx_fld "SortedBlocksModel" 19 1 10 false false := ⟨_, F_Mod, 46, t_Mod, rfl, by decide, cw_Mod, ct_Mod, cn_Mod, rfl, rfl, rfl, (fun h => by first | rfl | cases h), (fun h => by first | rfl | cases h), rfl, Or.inl (zx_i5 10 rfl rfl)⟩
set_option maxRecDepth 20000 in
theorem f_Mod_23 : zx_fld "SortedBlocksModel" 23 1 13 true true := ⟨_, F_Mod, 46, t_Mod, rfl, by decide, cw_Mod, ct_Mod, cn_Mod, rfl, rfl, rfl, (fun h => by first | rfl | cases h), (fun h => by first | rfl | cases h), rfl, Or.inl (zx_i5 13 rfl rfl)⟩
set_option maxRecDepth 20000 in
theorem f_Mod_26 : zx_fld "SortedBlocksModel" 26 1 15 true true := ⟨_, F_Mod, 46, t_Mod, rfl, by decide, cw_Mod, ct_Mod, cn_Mod, rfl, rfl, rfl, (fun h => by first | rfl | cases h), (fun h => by first | rfl | cases h), rfl, Or.inl (zx_i5 15 rfl rfl)⟩
set_option maxRecDepth 20000 in
theorem f_Mod_29 : zx_fld "SortedBlocksModel" 29 1 16 true true := ⟨_, F_Mod, 46, t_Mod, rfl, by decide, cw_Mod, ct_Mod, cn_Mod, rfl, rfl, rfl, (fun h => by first | rfl | cases h), (fun h => by first | rfl | cases h), rfl, Or.inl (zx_i5 16 rfl rfl)⟩
set_option maxRecDepth 20000 in
theorem f_Mod_32 : zx_fld "SortedBlocksModel" 32 1 18 true true := ⟨_, F_Mod, 46, t_Mod, rfl, by decide, cw_Mod, ct_Mod, cn_Mod, rfl, rfl, rfl, (fun h => by first | rfl | cases h), (fun h => by first | rfl | cases h), rfl, Or.inl (zx_i5 18 rfl rfl)⟩
set_option maxRecDepth 20000 in
theorem f_Mod_35 : zx_fld "SortedBlocksModel" 35 1 23 true true := ⟨_, F_Mod, 46, t_Mod, rfl, by decide, cw_Mod, ct_Mod, cn_Mod, rfl, rfl, rfl, (fun h => by first | rfl | cases h), (fun h => by first | rfl | cases h), rfl, Or.inl (zx_i5 23 rfl rfl)⟩
set_option maxRecDepth 20000 in
theorem f_Mod_39 : zx_fld "SortedBlocksModel" 39 1 24 true true := ⟨_, F_Mod, 46, t_Mod, rfl, by decide, cw_Mod, ct_Mod, cn_Mod, rfl, rfl, rfl, (fun h => by first | rfl | cases h), (fun h => by first | rfl | cases h), rfl, Or.inl (zx_i5 24 rfl rfl)⟩
set_option maxRecDepth 20000 in
theorem f_Mod_42 : zx_fld "SortedBlocksModel" 42 1 26 true true := ⟨_, F_Mod, 46, t_Mod, rfl, by decide, cw_Mod, ct_Mod, cn_Mod, rfl, rfl, rfl, (fun h => by first | rfl | cases h), (fun h => by first | rfl | cases h), rfl, Or.inl (zx_i5 26 rfl rfl)⟩
set_option maxRecDepth 20000 in
theorem f_Mod_45 : zx_fld "SortedBlocksModel" 45 1 27 true true := ⟨_, F_Mod, 46, t_Mod, rfl, by decide, cw_Mod, ct_Mod, cn_Mod, rfl, rfl, rfl, (fun h => by first | rfl | cases h), (fun h => by first | rfl | cases h), rfl, Or.inl (zx_i5 27 rfl rfl)⟩
set_option maxRecDepth 20000 in
theorem f_Mod_48 : zx_fld "SortedBlocksModel" 48 1 29 true true := ⟨_, F_Mod, 46, t_Mod, rfl, by decide, cw_Mod, ct_Mod, cn_Mod, rfl, rfl, rfl, (fun h => by first | rfl | cases h), (fun h => by first | rfl | cases h), rfl, Or.inl (zx_i5 29 rfl rfl)⟩
set_option maxRecDepth 20000 in
theorem f_Mod_51 : zx_fld "SortedBlocksModel" 51 1 30 true true := ⟨_, F_Mod, 46, t_Mod, rfl, by decide, cw_Mod, ct_Mod, cn_Mod, rfl, rfl, rfl, (fun h => by first | rfl | cases h), (fun h => by first | rfl | cases h), rfl, Or.inl (zx_i5 30 rfl rfl)⟩
set_option maxRecDepth 20000 in
theorem f_Mod_54 : zx_fld "SortedBlocksModel" 54 1 31 true true := ⟨_, F_Mod, 46, t_Mod, rfl, by decide, cw_Mod, ct_Mod, cn_Mod, rfl, rfl, rfl, (fun h => by first | rfl | cases h), (fun h => by first | rfl | cases h), rfl, Or.inl (zx_i5 31 rfl rfl)⟩
set_option maxRecDepth 20000 in
theorem f_Mod_57 : zx_fld "SortedBlocksModel" 57 1 32 true true := ⟨_, F_Mod, 46, t_Mod, rfl, by decide, cw_Mod, ct_Mod, cn_Mod, rfl, rfl, rfl, (fun h => by first | rfl | cases h), (fun h => by first | rfl | cases h), rfl, Or.inl (zx_i5 32 rfl rfl)⟩
set_option maxRecDepth 20000 in
theorem f_Mod_60 : zx_fld "SortedBlocksModel" 60 1 33 true true := ⟨_, F_Mod, 46, t_Mod, rfl, by decide, cw_Mod, ct_Mod, cn_Mod, rfl, rfl, rfl, (fun h => by first | rfl | cases h), (fun h => by first | rfl | cases h), rfl, Or.inl (zx_i5 33 rfl rfl)⟩
set_option maxRecDepth 20000 in
theorem f_Mod_63 : zx_fld "SortedBlocksModel" 63 1 42 true true := ⟨_, F_Mod, 46, t_Mod, rfl, by decide, cw_Mod, ct_Mod, cn_Mod, rfl, rfl, rfl, (fun h => by first | rfl | cases h), (fun h => by first | rfl | cases h), rfl, Or.inl (zx_i5 42 rfl rfl)⟩
set_option maxRecDepth 20000 in
theorem f_Mod_66 : zx_fld "SortedBlocksModel" 66 1 43 true true := ⟨_, F_Mod, 46, t_Mod, rfl, by decide, cw_Mod, ct_Mod, cn_Mod, rfl, rfl, rfl, (fun h => by first | rfl | cases h), (fun h => by first | rfl | cases h), rfl, Or.inl (zx_i5 43 rfl rfl)⟩
set_option maxRecDepth 20000 in
theorem f_Mod_69 : zx_fld "SortedBlocksModel" 69 1 44 true true := ⟨_, F_Mod, 46, t_Mod, rfl, by decide, cw_Mod, ct_Mod, cn_Mod, rfl, rfl, rfl, (fun h => by first | rfl | cases h), (fun h => by first | rfl | cases h), rfl, Or.inl (zx_i5 44 rfl rfl)⟩
set_option maxRecDepth 20000 in
theorem f_Mod_72 : zx_fld "SortedBlocksModel" 72 1 45 true true := ⟨_, F_Mod, 46, t_Mod, rfl, by decide, cw_Mod, ct_Mod, cn_Mod, rfl, rfl, rfl, (fun h => by first | rfl | cases h), (fun h => by first | rfl | cases h), rfl, Or.inl (zx_i5 45 rfl rfl)⟩
set_option maxRecDepth 20000 in
theorem f_Mod_75 : zx_fld "SortedBlocksModel" 75 1 0 false false := ⟨_, F_Mod, 46, t_Mod, rfl, by decide, cw_Mod, ct_Mod, cn_Mod, rfl, rfl, rfl, (fun h => by first | rfl | cases h), (fun h => by first | rfl | cases h), rfl, Or.inl (zx_i5 0 rfl rfl)⟩
set_option maxRecDepth 20000 in
theorem f_Mod_78 : zx_fld "SortedBlocksModel" 78 1 1 false false := ⟨_, F_Mod, 46, t_Mod, rfl, by decide, cw_Mod, ct_Mod, cn_Mod, rfl, rfl, rfl, (fun h => by first | rfl | cases h), (fun h => by first | rfl | cases h), rfl, Or.inl (zx_i5 1 rfl rfl)⟩
set_option maxRecDepth 20000 in
theorem f_Mod_83 : zx_fld "SortedBlocksModel" 83 1 3 false false := ⟨_, F_Mod, 46, t_Mod, rfl, by decide, cw_Mod, ct_Mod, cn_Mod, rfl, rfl, rfl, (fun h => by first | rfl | cases h), (fun h => by first | rfl | cases h), rfl, Or.inl (zx_i5 3 rfl rfl)⟩
set_option maxRecDepth 20000 in
theorem f_Mod_86 : zx_fld "SortedBlocksModel" 86 1 5 false false := ⟨_, F_Mod, 46, t_Mod, rfl, by decide, cw_Mod, ct_Mod, cn_Mod, rfl, rfl, rfl, (fun h => by first | rfl | cases h), (fun h => by first | rfl | cases h), rfl, Or.inl (zx_i5 5 rfl rfl)⟩
set_option maxRecDepth 20000 in
theorem f_Mod_91 : zx_fld "SortedBlocksModel" 91 1 12 false false := ⟨_, F_Mod, 46, t_Mod, rfl, by decide, cw_Mod, ct_Mod, cn_Mod, rfl, rfl, rfl, (fun h => by first | rfl | cases h), (fun h => by first | rfl | cases h), rfl, Or.inl (zx_i5 12 rfl rfl)⟩
set_option maxRecDepth 20000 in
theorem f_Mod_98 : zx_fld "SortedBlocksModel" 98 1 14 false false := ⟨_, F_Mod, 46, t_Mod, rfl, by decide, cw_Mod, ct_Mod, cn_Mod, rfl, rfl, rfl, (fun h => by first | rfl | cases h), (fun h => by first | rfl | cases h), rfl, Or.inl (zx_i5 14 rfl rfl)⟩
set_option maxRecDepth 20000 in
theorem f_Mod_105 : zx_fld "SortedBlocksModel" 105 1 21 false false := ⟨_, F_Mod, 46, t_Mod, rfl, by decide, cw_Mod, ct_Mod, cn_Mod, rfl, rfl, rfl, (fun h => by first | rfl | cases h), (fun h => by first | rfl | cases h), rfl, Or.inl (zx_i5 21 rfl rfl)⟩
set_option maxRecDepth 20000 in
theorem f_Mod_108 : zx_fld "SortedBlocksModel" 108 1 22 false false := ⟨_, F_Mod, 46, t_Mod, rfl, by decide, cw_Mod, ct_Mod, cn_Mod, rfl, rfl, rfl, (fun h => by first | rfl | cases h), (fun h => by first | rfl | cases h), rfl, Or.inl (zx_i5 22 rfl rfl)⟩
set_option maxRecDepth 20000 in
theorem f_Mod_111 : zx_fld "SortedBlocksModel" 111 1 17 false false := ⟨_, F_Mod, 46, t_Mod, rfl, by decide, cw_Mod, ct_Mod, cn_Mod, rfl, rfl, rfl, (fun h => by first | rfl | cases h), (fun h => by first | rfl | cases h), rfl, Or.inl (zx_i5 17 rfl rfl)⟩
set_option maxRecDepth 20000 in
theorem f_Mod_131 : zx_fld "SortedBlocksModel" 131 1 28 false false := ⟨_, F_Mod, 46, t_Mod, rfl, by decide, cw_Mod, ct_Mod, cn_Mod, rfl, rfl, rfl, (fun h => by first | rfl | cases h), (fun h => by first | rfl | cases h), rfl, Or.inl (zx_i5 28 rfl rfl)⟩
set_option maxRecDepth 20000 in
theorem f_Mod_134 : zx_fld "SortedBlocksModel" 134 1 25 false false := ⟨_, F_Mod, 46, t_Mod, rfl, by decide, cw_Mod, ct_Mod, cn_Mod, rfl, rfl, rfl, (fun h => by first | rfl | cases h), (fun h => by first | rfl | cases h), rfl, Or.inl (zx_i5 25 rfl rfl)⟩
set_option maxRecDepth 20000 in
theorem f_Mod_146 : zx_fld "SortedBlocksModel" 146 1 11 false false := ⟨_, F_Mod, 46, t_Mod, rfl, by decide, cw_Mod, ct_Mod, cn_Mod, rfl, rfl, rfl, (fun h => by first | rfl | cases h), (fun h => by first | rfl | cases h), rfl, Or.inl (zx_i5 11 rfl rfl)⟩
set_option maxRecDepth 20000 in
theorem f_Mod_163 : zx_fld "SortedBlocksModel" 163 1 19 false false := ⟨_, F_Mod, 46, t_Mod, rfl, by decide, cw_Mod, ct_Mod, cn_Mod, rfl, rfl, rfl, (fun h => by first | rfl | cases h), (fun h => by first | rfl | cases h), rfl, Or.inl (zx_i5 19 rfl rfl)⟩
set_option maxRecDepth 20000 in
theorem f_Mod_194 : zx_fld "SortedBlocksModel" 194 1 35 false false := ⟨_, F_Mod, 46, t_Mod, rfl, by decide, cw_Mod, ct_Mod, cn_Mod, rfl, rfl, rfl, (fun h => by first | rfl | cases h), (fun h => by first | rfl | cases h), rfl, Or.inl (zx_i5 35 rfl rfl)⟩
set_option maxRecDepth 20000 in
theorem f_Mod_197 : zx_fld "SortedBlocksModel" 197 1 36 false false := ⟨_, F_Mod, 46, t_Mod, rfl, by decide, cw_Mod, ct_Mod, cn_Mod, rfl, rfl, rfl, (fun h => by first | rfl | cases h), (fun h => by first | rfl | cases h), rfl, Or.inl (zx_i5 36 rfl rfl)⟩
set_option maxRecDepth 20000 in
theorem f_Mod_200 : zx_fld "SortedBlocksModel" 200 1 37 false false := ⟨_, F_Mod, 46, t_Mod, rfl, by decide, cw_Mod, ct_Mod, cn_Mod, rfl, rfl, rfl, (fun h => by first | rfl | cases h), (fun h => by first | rfl | cases h), rfl, Or.inl (zx_i5 37 rfl rfl)⟩
set_option maxRecDepth 20000 in
theorem f_Mod_203 : zx_fld "SortedBlocksModel" 203 1 38 false false := ⟨_, F_Mod, 46, t_Mod, rfl, by decide, cw_Mod, ct_Mod, cn_Mod, rfl, rfl, rfl, (fun h => by first | rfl | cases h), (fun h => by first | rfl | cases h), rfl, Or.inl (zx_i5 38 rfl rfl)⟩
set_option maxRecDepth 20000 in
theorem f_Mod_206 : zx_fld "SortedBlocksModel" 206 1 39 false false := ⟨_, F_Mod, 46, t_Mod, rfl, by decide, cw_Mod, ct_Mod, cn_Mod, rfl, rfl, rfl, (fun h => by first | rfl | cases h), (fun h => by first | rfl | cases h), rfl, Or.inl (zx_i5 39 rfl rfl)⟩
set_option maxRecDepth 20000 in
theorem f_Mod_209 : zx_fld "SortedBlocksModel" 209 1 40 false false := ⟨_, F_Mod, 46, t_Mod, rfl, by decide, cw_Mod, ct_Mod, cn_Mod, rfl, rfl, rfl, (fun h => by first | rfl | cases h), (fun h => by first | rfl | cases h), rfl, Or.inl (zx_i5 40 rfl rfl)⟩
set_option maxRecDepth 20000 in
theorem f_Mod_212 : zx_fld "SortedBlocksModel" 212 1 41 false false := ⟨_, F_Mod, 46, t_Mod, rfl, by decide, cw_Mod, ct_Mod, cn_Mod, rfl, rfl, rfl, (fun h => by first | rfl | cases h), (fun h => by first | rfl | cases h), rfl, Or.inl (zx_i5 41 rfl rfl)⟩
set_option maxRecDepth 20000 in
theorem f_Mod_215 : zx_fld "SortedBlocksModel" 215 1 34 false false := ⟨_, F_Mod, 46, t_Mod, rfl, by decide, cw_Mod, ct_Mod, cn_Mod, rfl, rfl, rfl, (fun h => by first | rfl | cases h), (fun h => by first | rfl | cases h), rfl, Or.inl (zx_i5 34 rfl rfl)⟩
set_option maxRecDepth 20000 in
theorem f_Mod_231 : zx_fld "SortedBlocksModel" 231 1 8 false false := ⟨_, F_Mod, 46, t_Mod, rfl, by decide, cw_Mod, ct_Mod, cn_Mod, rfl, rfl, rfl, (fun h => by first | rfl | cases h), (fun h => by first | rfl | cases h), rfl, Or.inl (zx_i5 8 rfl rfl)⟩
set_option maxRecDepth 20000 in
theorem f_Mod_234 : zx_fld "SortedBlocksModel" 234 1 9 false false := ⟨_, F_Mod, 46, t_Mod, rfl, by decide, cw_Mod, ct_Mod, cn_Mod, rfl, rfl, rfl, (fun h => by first | rfl | cases h), (fun h => by first | rfl | cases h), rfl, Or.inl (zx_i5 9 rfl rfl)⟩
set_option maxRecDepth 20000 in
theorem f_Mod_237 : zx_fld "SortedBlocksModel" 237 1 7 false false := ⟨_, F_Mod, 46, t_Mod, rfl, by decide, cw_Mod, ct_Mod, cn_Mod, rfl, rfl, rfl, (fun h => by first | rfl | cases h), (fun h => by first | rfl | cases h), rfl, Or.inl (zx_i5 7 rfl rfl)⟩
set_option maxRecDepth 20000 in
theorem f_Mod_260 : zx_fld "SortedBlocksModel" 260 1 20 false false := ⟨_, F_Mod, 46, t_Mod, rfl, by decide, cw_Mod, ct_Mod, cn_Mod, rfl, rfl, rfl, (fun h => by first | rfl | cases h), (fun h => by first | rfl | cases h), rfl, Or.inl (zx_i5 20 rfl rfl)⟩
set_option maxRecDepth 20000 in
theorem k_BitReader_31 : zi_lkV "SortedBlocks$BitReader" 31 M_BitReader_beginNumber 0 2 := ⟨⟨(zx_i2 166 rfl rfl), (zx_i1 3 rfl rfl), ⟨by decide +kernel, by decide +kernel, by decide +kernel⟩, Or.inl (zx_i2 163 rfl rfl)⟩, (zx_i2 164 rfl rfl), (zx_i2 165 rfl rfl), _, _, rfl⟩
set_option maxRecDepth 20000 in
theorem k_BitReader_34 : zi_lkV "SortedBlocks$BitReader" 34 M_BitReader_takeBit 0 2 := ⟨⟨(zx_i2 148 rfl rfl), (zx_i1 3 rfl rfl), ⟨by decide +kernel, by decide +kernel, by decide +kernel⟩, Or.inl (zx_i2 145 rfl rfl)⟩, (zx_i2 146 rfl rfl), (zx_i2 147 rfl rfl), _, _, rfl⟩
set_option maxRecDepth 20000 in
theorem k_BitReader_38 : zi_lkV "SortedBlocks$BitReader" 38 M_BitReader_goTo 1 2 := ⟨⟨(zx_i2 144 rfl rfl), (zx_i1 3 rfl rfl), ⟨by decide +kernel, by decide +kernel, by decide +kernel⟩, Or.inl (zx_i2 141 rfl rfl)⟩, (zx_i2 142 rfl rfl), (zx_i2 143 rfl rfl), _, _, rfl⟩
set_option maxRecDepth 20000 in
theorem k_BitWriter_20 : zi_lkV "SortedBlocks$BitWriter" 20 M_BitWriter_putBit 1 3 := ⟨⟨(zx_i4 37 rfl rfl), (zx_i1 11 rfl rfl), ⟨by decide +kernel, by decide +kernel, by decide +kernel⟩, Or.inl (zx_i4 34 rfl rfl)⟩, (zx_i4 36 rfl rfl), (zx_i0 18 rfl rfl), _, _, rfl⟩
set_option maxRecDepth 20000 in
theorem k_BitWriter_24 : zi_lkV "SortedBlocks$BitWriter" 24 M_BitWriter_put 2 3 := ⟨⟨(zx_i4 33 rfl rfl), (zx_i1 11 rfl rfl), ⟨by decide +kernel, by decide +kernel, by decide +kernel⟩, Or.inl (zx_i4 177 rfl rfl)⟩, (zx_i4 31 rfl rfl), (zx_i4 32 rfl rfl), _, _, rfl⟩
set_option maxRecDepth 20000 in
theorem k_BitWriter_28 : zi_lkV "SortedBlocks$BitWriter" 28 M_Row_add 1 11 := ⟨⟨(zx_i3 59 rfl rfl), (zx_i1 2 rfl rfl), ⟨by decide +kernel, by decide +kernel, by decide +kernel⟩, Or.inl (zx_i4 38 rfl rfl)⟩, (zx_i3 57 rfl rfl), (zx_i3 58 rfl rfl), _, _, rfl⟩
set_option maxRecDepth 20000 in
theorem k_BlockMaker_104 : zi_lkV "SortedBlocks$BlockMaker" 104 M_Block_addKind 1 4 := ⟨⟨(zx_i2 180 rfl rfl), (zx_i1 12 rfl rfl), ⟨by decide +kernel, by decide +kernel, by decide +kernel⟩, Or.inl (zx_i4 69 rfl rfl)⟩, (zx_i2 178 rfl rfl), (zx_i2 179 rfl rfl), _, _, rfl⟩
set_option maxRecDepth 20000 in
theorem k_BlockMaker_110 : zi_lkV "SortedBlocks$BlockMaker" 110 M_MoveList_setTo 2 9 := ⟨⟨(zx_i3 15 rfl rfl), (zx_i1 5 rfl rfl), ⟨by decide +kernel, by decide +kernel, by decide +kernel⟩, Or.inl (zx_i4 74 rfl rfl)⟩, (zx_i3 13 rfl rfl), (zx_i3 14 rfl rfl), _, _, rfl⟩
set_option maxRecDepth 20000 in
theorem k_BlockMaker_116 : zi_lkV "SortedBlocks$BlockMaker" 116 M_MoveList_moveValue 1 9 := ⟨⟨(zx_i4 78 rfl rfl), (zx_i1 5 rfl rfl), ⟨by decide +kernel, by decide +kernel, by decide +kernel⟩, Or.inl (zx_i4 75 rfl rfl)⟩, (zx_i4 76 rfl rfl), (zx_i4 77 rfl rfl), _, _, rfl⟩
set_option maxRecDepth 20000 in
theorem k_BlockMaker_119 : zi_lkS "SortedBlocks$BlockMaker" 119 M_BlockMaker_addRun 2 := ⟨⟨(zx_i4 82 rfl rfl), (zx_i1 7 rfl rfl), ⟨by decide +kernel, by decide +kernel, by decide +kernel⟩, Or.inl (zx_i4 80 rfl rfl)⟩, (zx_i4 81 rfl rfl)⟩
set_option maxRecDepth 20000 in
theorem k_BlockMaker_123 : zi_lkV "SortedBlocks$BlockMaker" 123 M_Block_addSymbol 1 4 := ⟨⟨(zx_i3 31 rfl rfl), (zx_i1 12 rfl rfl), ⟨by decide +kernel, by decide +kernel, by decide +kernel⟩, Or.inl (zx_i4 83 rfl rfl)⟩, (zx_i3 29 rfl rfl), (zx_i3 30 rfl rfl), _, _, rfl⟩
set_option maxRecDepth 20000 in
theorem k_BlockMaker_126 : zi_lkV "SortedBlocks$BlockMaker" 126 M_Block_endSymbol 0 4 := ⟨⟨(zx_i3 35 rfl rfl), (zx_i1 12 rfl rfl), ⟨by decide +kernel, by decide +kernel, by decide +kernel⟩, Or.inl (zx_i4 84 rfl rfl)⟩, (zx_i3 33 rfl rfl), (zx_i3 34 rfl rfl), _, _, rfl⟩
set_option maxRecDepth 20000 in
theorem k_BlockMaker_32 : zi_lkS "SortedBlocks$BlockMaker" 32 M_BlockMaker_shorten 4 := ⟨⟨(zx_i4 45 rfl rfl), (zx_i1 7 rfl rfl), ⟨by decide +kernel, by decide +kernel, by decide +kernel⟩, Or.inl (zx_i4 43 rfl rfl)⟩, (zx_i4 44 rfl rfl)⟩
set_option maxRecDepth 20000 in
theorem k_BlockMaker_36 : zi_lkS "SortedBlocks$BlockMaker" 36 M_Main_checkOf 3 := ⟨⟨(zx_i3 62 rfl rfl), (zx_i1 1 rfl rfl), ⟨by decide +kernel, by decide +kernel, by decide +kernel⟩, Or.inr ⟨"SortedBlocks", (zx_n4 51 rfl rfl)⟩⟩, (zx_i3 61 rfl rfl)⟩
set_option maxRecDepth 20000 in
theorem k_BlockMaker_46 : zi_lkV "SortedBlocks$BlockMaker" 46 M_BlockMaker_sortRotations 1 5 := ⟨⟨(zx_i4 55 rfl rfl), (zx_i1 7 rfl rfl), ⟨by decide +kernel, by decide +kernel, by decide +kernel⟩, Or.inl (zx_i4 52 rfl rfl)⟩, (zx_i4 54 rfl rfl), (zx_i0 19 rfl rfl), _, _, rfl⟩
set_option maxRecDepth 20000 in
theorem k_BlockMaker_50 : zi_lkV "SortedBlocks$BlockMaker" 50 M_BlockMaker_readOrder 1 5 := ⟨⟨(zx_i4 63 rfl rfl), (zx_i1 7 rfl rfl), ⟨by decide +kernel, by decide +kernel, by decide +kernel⟩, Or.inl (zx_i4 60 rfl rfl)⟩, (zx_i4 62 rfl rfl), (zx_i0 20 rfl rfl), _, _, rfl⟩
set_option maxRecDepth 20000 in
theorem k_BlockMaker_53 : zi_lkV "SortedBlocks$BlockMaker" 53 M_BlockMaker_listKinds 1 5 := ⟨⟨(zx_i4 67 rfl rfl), (zx_i1 7 rfl rfl), ⟨by decide +kernel, by decide +kernel, by decide +kernel⟩, Or.inl (zx_i4 64 rfl rfl)⟩, (zx_i4 66 rfl rfl), (zx_i0 21 rfl rfl), _, _, rfl⟩
set_option maxRecDepth 20000 in
theorem k_BlockMaker_56 : zi_lkV "SortedBlocks$BlockMaker" 56 M_BlockMaker_findSymbols 1 5 := ⟨⟨(zx_i4 73 rfl rfl), (zx_i1 7 rfl rfl), ⟨by decide +kernel, by decide +kernel, by decide +kernel⟩, Or.inl (zx_i4 70 rfl rfl)⟩, (zx_i4 72 rfl rfl), (zx_i0 22 rfl rfl), _, _, rfl⟩
set_option maxRecDepth 20000 in
theorem k_BlockMaker_59 : zi_lkV "SortedBlocks$BlockMaker" 59 M_Picker_pickTables 1 10 := ⟨⟨(zx_i4 88 rfl rfl), (zx_i1 8 rfl rfl), ⟨by decide +kernel, by decide +kernel, by decide +kernel⟩, Or.inl (zx_i4 85 rfl rfl)⟩, (zx_i4 86 rfl rfl), (zx_i4 87 rfl rfl), _, _, rfl⟩
set_option maxRecDepth 20000 in
theorem k_BlockMaker_68 : zi_lkV "SortedBlocks$BlockMaker" 68 M_Row_get 1 11 := ⟨⟨(zx_i3 67 rfl rfl), (zx_i1 2 rfl rfl), ⟨by decide +kernel, by decide +kernel, by decide +kernel⟩, Or.inl (zx_i4 46 rfl rfl)⟩, (zx_i3 65 rfl rfl), (zx_i3 66 rfl rfl), _, _, rfl⟩
set_option maxRecDepth 20000 in
theorem k_BlockMaker_72 : zi_lkV "SortedBlocks$BlockMaker" 72 M_Block_addShortened 1 4 := ⟨⟨(zx_i4 50 rfl rfl), (zx_i1 12 rfl rfl), ⟨by decide +kernel, by decide +kernel, by decide +kernel⟩, Or.inl (zx_i4 47 rfl rfl)⟩, (zx_i4 48 rfl rfl), (zx_i4 49 rfl rfl), _, _, rfl⟩
set_option maxRecDepth 20000 in
theorem k_BlockMaker_79 : zi_lkS "SortedBlocks$BlockMaker" 79 M_BlockMaker_isBefore 3 := ⟨⟨(zx_i4 58 rfl rfl), (zx_i1 7 rfl rfl), ⟨by decide +kernel, by decide +kernel, by decide +kernel⟩, Or.inl (zx_i4 56 rfl rfl)⟩, (zx_i4 57 rfl rfl)⟩
set_option maxRecDepth 20000 in
theorem w_copy_BlockMaker_83 : zi_wc "SortedBlocks$BlockMaker" 83 := ⟨(zx_i4 59 rfl rfl), (zx_i2 208 rfl rfl), (zx_i2 207 rfl rfl), (zx_i1 20 rfl rfl)⟩
set_option maxRecDepth 20000 in
theorem k_BlockMaker_95 : zi_lkS "SortedBlocks$BlockMaker" 95 M_Arrays_fill 2 := ⟨⟨(zx_i2 239 rfl rfl), (zx_i1 21 rfl rfl), ⟨by decide +kernel, by decide +kernel, by decide +kernel⟩, Or.inl (zx_i4 68 rfl rfl)⟩, (zx_i2 238 rfl rfl)⟩
set_option maxRecDepth 20000 in
theorem k_BlockReader_104 : zi_lkS "SortedBlocks$BlockReader" 104 M_Main_mapBit 1 := ⟨⟨(zx_i2 173 rfl rfl), (zx_i1 1 rfl rfl), ⟨by decide +kernel, by decide +kernel, by decide +kernel⟩, Or.inr ⟨"SortedBlocks", (zx_n2 171 rfl rfl)⟩⟩, (zx_i2 172 rfl rfl)⟩
set_option maxRecDepth 20000 in
theorem k_BlockReader_107 : zi_lkS "SortedBlocks$BlockReader" 107 M_BlockReader_addKinds 3 := ⟨⟨(zx_i2 176 rfl rfl), (zx_i1 4 rfl rfl), ⟨by decide +kernel, by decide +kernel, by decide +kernel⟩, Or.inl (zx_i2 174 rfl rfl)⟩, (zx_i2 175 rfl rfl)⟩
set_option maxRecDepth 20000 in
theorem k_BlockReader_111 : zi_lkV "SortedBlocks$BlockReader" 111 M_Block_addKind 1 4 := ⟨⟨(zx_i2 180 rfl rfl), (zx_i1 12 rfl rfl), ⟨by decide +kernel, by decide +kernel, by decide +kernel⟩, Or.inl (zx_i2 177 rfl rfl)⟩, (zx_i2 178 rfl rfl), (zx_i2 179 rfl rfl), _, _, rfl⟩
set_option maxRecDepth 20000 in
theorem k_BlockReader_120 : zi_lkV "SortedBlocks$BlockReader" 120 M_MoveList_setToNumbers 1 9 := ⟨⟨(zx_i2 192 rfl rfl), (zx_i1 5 rfl rfl), ⟨by decide +kernel, by decide +kernel, by decide +kernel⟩, Or.inl (zx_i2 189 rfl rfl)⟩, (zx_i2 190 rfl rfl), (zx_i2 191 rfl rfl), _, _, rfl⟩
set_option maxRecDepth 20000 in
theorem k_BlockReader_123 : zi_lkV "SortedBlocks$BlockReader" 123 M_BlockReader_readPick 1 6 := ⟨⟨(zx_i2 199 rfl rfl), (zx_i1 4 rfl rfl), ⟨by decide +kernel, by decide +kernel, by decide +kernel⟩, Or.inl (zx_i2 196 rfl rfl)⟩, (zx_i2 198 rfl rfl), (zx_i0 4 rfl rfl), _, _, rfl⟩
set_option maxRecDepth 20000 in
theorem k_BlockReader_129 : zi_lkV "SortedBlocks$BlockReader" 129 M_MoveList_movePlace 1 9 := ⟨⟨(zx_i2 205 rfl rfl), (zx_i1 5 rfl rfl), ⟨by decide +kernel, by decide +kernel, by decide +kernel⟩, Or.inl (zx_i2 202 rfl rfl)⟩, (zx_i2 203 rfl rfl), (zx_i2 204 rfl rfl), _, _, rfl⟩
set_option maxRecDepth 20000 in
theorem k_BlockReader_132 : zi_lkV "SortedBlocks$BlockReader" 132 M_BitReader_beginNumber 0 2 := ⟨⟨(zx_i2 166 rfl rfl), (zx_i1 3 rfl rfl), ⟨by decide +kernel, by decide +kernel, by decide +kernel⟩, Or.inl (zx_i2 200 rfl rfl)⟩, (zx_i2 164 rfl rfl), (zx_i2 165 rfl rfl), _, _, rfl⟩
set_option maxRecDepth 20000 in
theorem k_BlockReader_135 : zi_lkV "SortedBlocks$BlockReader" 135 M_BitReader_takeBit 0 2 := ⟨⟨(zx_i2 148 rfl rfl), (zx_i1 3 rfl rfl), ⟨by decide +kernel, by decide +kernel, by decide +kernel⟩, Or.inl (zx_i2 201 rfl rfl)⟩, (zx_i2 146 rfl rfl), (zx_i2 147 rfl rfl), _, _, rfl⟩
set_option maxRecDepth 20000 in
theorem k_BlockReader_143 : zi_lkV "SortedBlocks$BlockReader" 143 M_Block_symbolKinds 0 4 := ⟨⟨(zx_i2 216 rfl rfl), (zx_i1 12 rfl rfl), ⟨by decide +kernel, by decide +kernel, by decide +kernel⟩, Or.inl (zx_i2 213 rfl rfl)⟩, (zx_i2 214 rfl rfl), (zx_i2 215 rfl rfl), _, _, rfl⟩
set_option maxRecDepth 20000 in
theorem k_BlockReader_146 : zi_lkV "SortedBlocks$BlockReader" 146 M_BlockReader_readLengths 2 6 := ⟨⟨(zx_i2 220 rfl rfl), (zx_i1 4 rfl rfl), ⟨by decide +kernel, by decide +kernel, by decide +kernel⟩, Or.inl (zx_i2 217 rfl rfl)⟩, (zx_i2 219 rfl rfl), (zx_i0 6 rfl rfl), _, _, rfl⟩
set_option maxRecDepth 20000 in
theorem k_BlockReader_150 : zi_lkV "SortedBlocks$BlockReader" 150 M_Codes_setTo 2 8 := ⟨⟨(zx_i2 231 rfl rfl), (zx_i1 6 rfl rfl), ⟨by decide +kernel, by decide +kernel, by decide +kernel⟩, Or.inl (zx_i2 228 rfl rfl)⟩, (zx_i2 229 rfl rfl), (zx_i2 230 rfl rfl), _, _, rfl⟩
set_option maxRecDepth 20000 in
theorem k_BlockReader_154 : zi_lkS "SortedBlocks$BlockReader" 154 M_Codes_isLength 1 := ⟨⟨(zx_i2 223 rfl rfl), (zx_i1 6 rfl rfl), ⟨by decide +kernel, by decide +kernel, by decide +kernel⟩, Or.inl (zx_i2 221 rfl rfl)⟩, (zx_i2 222 rfl rfl)⟩
set_option maxRecDepth 20000 in
theorem k_BlockReader_158 : zi_lkV "SortedBlocks$BlockReader" 158 M_BlockReader_readLength 1 6 := ⟨⟨(zx_i2 227 rfl rfl), (zx_i1 4 rfl rfl), ⟨by decide +kernel, by decide +kernel, by decide +kernel⟩, Or.inl (zx_i2 224 rfl rfl)⟩, (zx_i2 226 rfl rfl), (zx_i0 7 rfl rfl), _, _, rfl⟩
set_option maxRecDepth 20000 in
theorem k_BlockReader_164 : zi_lkV "SortedBlocks$BlockReader" 164 M_MoveList_setTo 2 9 := ⟨⟨(zx_i3 15 rfl rfl), (zx_i1 5 rfl rfl), ⟨by decide +kernel, by decide +kernel, by decide +kernel⟩, Or.inl (zx_i3 12 rfl rfl)⟩, (zx_i3 13 rfl rfl), (zx_i3 14 rfl rfl), _, _, rfl⟩
set_option maxRecDepth 20000 in
theorem k_BlockReader_169 : zi_lkV "SortedBlocks$BlockReader" 169 M_Block_pickOfSymbol 1 4 := ⟨⟨(zx_i3 19 rfl rfl), (zx_i1 12 rfl rfl), ⟨by decide +kernel, by decide +kernel, by decide +kernel⟩, Or.inl (zx_i3 16 rfl rfl)⟩, (zx_i3 17 rfl rfl), (zx_i3 18 rfl rfl), _, _, rfl⟩
set_option maxRecDepth 20000 in
theorem k_BlockReader_172 : zi_lkV "SortedBlocks$BlockReader" 172 M_BlockReader_readSymbol 1 6 := ⟨⟨(zx_i3 23 rfl rfl), (zx_i1 4 rfl rfl), ⟨by decide +kernel, by decide +kernel, by decide +kernel⟩, Or.inl (zx_i3 20 rfl rfl)⟩, (zx_i3 22 rfl rfl), (zx_i0 11 rfl rfl), _, _, rfl⟩
set_option maxRecDepth 20000 in
theorem k_BlockReader_176 : zi_lkV "SortedBlocks$BlockReader" 176 M_Block_addSymbol 1 4 := ⟨⟨(zx_i3 31 rfl rfl), (zx_i1 12 rfl rfl), ⟨by decide +kernel, by decide +kernel, by decide +kernel⟩, Or.inl (zx_i3 28 rfl rfl)⟩, (zx_i3 29 rfl rfl), (zx_i3 30 rfl rfl), _, _, rfl⟩
set_option maxRecDepth 20000 in
theorem k_BlockReader_179 : zi_lkV "SortedBlocks$BlockReader" 179 M_Block_endSymbol 0 4 := ⟨⟨(zx_i3 35 rfl rfl), (zx_i1 12 rfl rfl), ⟨by decide +kernel, by decide +kernel, by decide +kernel⟩, Or.inl (zx_i3 32 rfl rfl)⟩, (zx_i3 33 rfl rfl), (zx_i3 34 rfl rfl), _, _, rfl⟩
set_option maxRecDepth 20000 in
theorem k_BlockReader_182 : zi_lkV "SortedBlocks$BlockReader" 182 M_BlockReader_addBytes 3 6 := ⟨⟨(zx_i3 39 rfl rfl), (zx_i1 4 rfl rfl), ⟨by decide +kernel, by decide +kernel, by decide +kernel⟩, Or.inl (zx_i3 36 rfl rfl)⟩, (zx_i3 38 rfl rfl), (zx_i0 12 rfl rfl), _, _, rfl⟩
set_option maxRecDepth 20000 in
theorem k_BlockReader_186 : zi_lkV "SortedBlocks$BlockReader" 186 M_Codes_find 2 8 := ⟨⟨(zx_i3 27 rfl rfl), (zx_i1 6 rfl rfl), ⟨by decide +kernel, by decide +kernel, by decide +kernel⟩, Or.inl (zx_i3 24 rfl rfl)⟩, (zx_i3 25 rfl rfl), (zx_i3 26 rfl rfl), _, _, rfl⟩
set_option maxRecDepth 20000 in
theorem k_BlockReader_190 : zi_lkV "SortedBlocks$BlockReader" 190 M_Block_addToColumn 1 4 := ⟨⟨(zx_i3 43 rfl rfl), (zx_i1 12 rfl rfl), ⟨by decide +kernel, by decide +kernel, by decide +kernel⟩, Or.inl (zx_i3 40 rfl rfl)⟩, (zx_i3 41 rfl rfl), (zx_i3 42 rfl rfl), _, _, rfl⟩
set_option maxRecDepth 20000 in
theorem k_BlockReader_193 : zi_lkV "SortedBlocks$BlockReader" 193 M_BlockReader_findFollowers 1 6 := ⟨⟨(zx_i3 51 rfl rfl), (zx_i1 4 rfl rfl), ⟨by decide +kernel, by decide +kernel, by decide +kernel⟩, Or.inl (zx_i3 48 rfl rfl)⟩, (zx_i3 50 rfl rfl), (zx_i0 14 rfl rfl), _, _, rfl⟩
set_option maxRecDepth 20000 in
theorem k_BlockReader_203 : zi_lkS "SortedBlocks$BlockReader" 203 M_Arrays_fill 2 := ⟨⟨(zx_i2 239 rfl rfl), (zx_i1 21 rfl rfl), ⟨by decide +kernel, by decide +kernel, by decide +kernel⟩, Or.inl (zx_i3 52 rfl rfl)⟩, (zx_i2 238 rfl rfl)⟩
set_option maxRecDepth 20000 in
theorem k_BlockReader_208 : zi_lkV "SortedBlocks$BlockReader" 208 M_Row_add 1 11 := ⟨⟨(zx_i3 59 rfl rfl), (zx_i1 2 rfl rfl), ⟨by decide +kernel, by decide +kernel, by decide +kernel⟩, Or.inl (zx_i3 56 rfl rfl)⟩, (zx_i3 57 rfl rfl), (zx_i3 58 rfl rfl), _, _, rfl⟩
set_option maxRecDepth 20000 in
theorem k_BlockReader_52 : zi_lkV "SortedBlocks$BlockReader" 52 M_BlockReader_readNumbers 1 6 := ⟨⟨(zx_i2 158 rfl rfl), (zx_i1 4 rfl rfl), ⟨by decide +kernel, by decide +kernel, by decide +kernel⟩, Or.inl (zx_i2 155 rfl rfl)⟩, (zx_i2 157 rfl rfl), (zx_i0 0 rfl rfl), _, _, rfl⟩
set_option maxRecDepth 20000 in
theorem k_BlockReader_56 : zi_lkV "SortedBlocks$BlockReader" 56 M_BlockReader_readMap 1 6 := ⟨⟨(zx_i2 170 rfl rfl), (zx_i1 4 rfl rfl), ⟨by decide +kernel, by decide +kernel, by decide +kernel⟩, Or.inl (zx_i2 167 rfl rfl)⟩, (zx_i2 169 rfl rfl), (zx_i0 1 rfl rfl), _, _, rfl⟩
set_option maxRecDepth 20000 in
theorem k_BlockReader_59 : zi_lkV "SortedBlocks$BlockReader" 59 M_BlockReader_readCounts 1 6 := ⟨⟨(zx_i2 184 rfl rfl), (zx_i1 4 rfl rfl), ⟨by decide +kernel, by decide +kernel, by decide +kernel⟩, Or.inl (zx_i2 181 rfl rfl)⟩, (zx_i2 183 rfl rfl), (zx_i0 2 rfl rfl), _, _, rfl⟩
set_option maxRecDepth 20000 in
theorem k_BlockReader_62 : zi_lkV "SortedBlocks$BlockReader" 62 M_BlockReader_readPicks 1 6 := ⟨⟨(zx_i2 188 rfl rfl), (zx_i1 4 rfl rfl), ⟨by decide +kernel, by decide +kernel, by decide +kernel⟩, Or.inl (zx_i2 185 rfl rfl)⟩, (zx_i2 187 rfl rfl), (zx_i0 3 rfl rfl), _, _, rfl⟩
set_option maxRecDepth 20000 in
theorem k_BlockReader_65 : zi_lkV "SortedBlocks$BlockReader" 65 M_BlockReader_readTables 1 6 := ⟨⟨(zx_i2 212 rfl rfl), (zx_i1 4 rfl rfl), ⟨by decide +kernel, by decide +kernel, by decide +kernel⟩, Or.inl (zx_i2 209 rfl rfl)⟩, (zx_i2 211 rfl rfl), (zx_i0 5 rfl rfl), _, _, rfl⟩
set_option maxRecDepth 20000 in
theorem k_BlockReader_68 : zi_lkV "SortedBlocks$BlockReader" 68 M_BlockReader_readSymbols 2 6 := ⟨⟨(zx_i3 11 rfl rfl), (zx_i1 4 rfl rfl), ⟨by decide +kernel, by decide +kernel, by decide +kernel⟩, Or.inl (zx_i3 8 rfl rfl)⟩, (zx_i3 10 rfl rfl), (zx_i0 10 rfl rfl), _, _, rfl⟩
set_option maxRecDepth 20000 in
theorem k_BlockReader_72 : zi_lkV "SortedBlocks$BlockReader" 72 M_BlockReader_unsort 1 6 := ⟨⟨(zx_i3 47 rfl rfl), (zx_i1 4 rfl rfl), ⟨by decide +kernel, by decide +kernel, by decide +kernel⟩, Or.inl (zx_i3 44 rfl rfl)⟩, (zx_i3 46 rfl rfl), (zx_i0 13 rfl rfl), _, _, rfl⟩
set_option maxRecDepth 20000 in
theorem k_BlockReader_75 : zi_lkS "SortedBlocks$BlockReader" 75 M_BlockReader_lengthen 2 := ⟨⟨(zx_i3 55 rfl rfl), (zx_i1 4 rfl rfl), ⟨by decide +kernel, by decide +kernel, by decide +kernel⟩, Or.inl (zx_i3 53 rfl rfl)⟩, (zx_i3 54 rfl rfl)⟩
set_option maxRecDepth 20000 in
theorem k_BlockReader_79 : zi_lkS "SortedBlocks$BlockReader" 79 M_Main_checkOf 3 := ⟨⟨(zx_i3 62 rfl rfl), (zx_i1 1 rfl rfl), ⟨by decide +kernel, by decide +kernel, by decide +kernel⟩, Or.inr ⟨"SortedBlocks", (zx_n3 60 rfl rfl)⟩⟩, (zx_i3 61 rfl rfl)⟩
set_option maxRecDepth 20000 in
theorem k_BlockReader_91 : zi_lkV "SortedBlocks$BlockReader" 91 M_Row_cut 1 11 := ⟨⟨(zx_i2 136 rfl rfl), (zx_i1 2 rfl rfl), ⟨by decide +kernel, by decide +kernel, by decide +kernel⟩, Or.inl (zx_i3 68 rfl rfl)⟩, (zx_i2 134 rfl rfl), (zx_i2 135 rfl rfl), _, _, rfl⟩
set_option maxRecDepth 20000 in
theorem k_BlockReader_94 : zi_lkV "SortedBlocks$BlockReader" 94 M_BitReader_takeNumber 1 2 := ⟨⟨(zx_i2 162 rfl rfl), (zx_i1 3 rfl rfl), ⟨by decide +kernel, by decide +kernel, by decide +kernel⟩, Or.inl (zx_i2 159 rfl rfl)⟩, (zx_i2 160 rfl rfl), (zx_i2 161 rfl rfl), _, _, rfl⟩
set_option maxRecDepth 20000 in
theorem k_BlockWriter_100 : zi_lkS "SortedBlocks$BlockWriter" 100 M_Main_mapBit 1 := ⟨⟨(zx_i2 173 rfl rfl), (zx_i1 1 rfl rfl), ⟨by decide +kernel, by decide +kernel, by decide +kernel⟩, Or.inr ⟨"SortedBlocks", (zx_n4 140 rfl rfl)⟩⟩, (zx_i2 172 rfl rfl)⟩
set_option maxRecDepth 20000 in
theorem k_BlockWriter_104 : zi_lkV "SortedBlocks$BlockWriter" 104 M_MoveList_setToNumbers 1 9 := ⟨⟨(zx_i2 192 rfl rfl), (zx_i1 5 rfl rfl), ⟨by decide +kernel, by decide +kernel, by decide +kernel⟩, Or.inl (zx_i4 145 rfl rfl)⟩, (zx_i2 190 rfl rfl), (zx_i2 191 rfl rfl), _, _, rfl⟩
set_option maxRecDepth 20000 in
theorem k_BlockWriter_110 : zi_lkV "SortedBlocks$BlockWriter" 110 M_MoveList_moveValue 1 9 := ⟨⟨(zx_i4 78 rfl rfl), (zx_i1 5 rfl rfl), ⟨by decide +kernel, by decide +kernel, by decide +kernel⟩, Or.inl (zx_i4 146 rfl rfl)⟩, (zx_i4 76 rfl rfl), (zx_i4 77 rfl rfl), _, _, rfl⟩
set_option maxRecDepth 20000 in
theorem w_abs_BlockWriter_113 : zi_wm "SortedBlocks$BlockWriter" 113 Lib.Math.abs.name Lib.Math.abs.code 1 := ⟨(zx_i4 152 rfl rfl), (zx_i4 153 rfl rfl), (zx_i1 22 rfl rfl), (zx_i4 154 rfl rfl)⟩
set_option maxRecDepth 20000 in
theorem k_BlockWriter_121 : zi_lkV "SortedBlocks$BlockWriter" 121 M_Block_pickOfSymbol 1 4 := ⟨⟨(zx_i3 19 rfl rfl), (zx_i1 12 rfl rfl), ⟨by decide +kernel, by decide +kernel, by decide +kernel⟩, Or.inl (zx_i4 160 rfl rfl)⟩, (zx_i3 17 rfl rfl), (zx_i3 18 rfl rfl), _, _, rfl⟩
set_option maxRecDepth 20000 in
theorem k_BlockWriter_127 : zi_lkV "SortedBlocks$BlockWriter" 127 M_Codes_codeOf 1 8 := ⟨⟨(zx_i4 164 rfl rfl), (zx_i1 6 rfl rfl), ⟨by decide +kernel, by decide +kernel, by decide +kernel⟩, Or.inl (zx_i4 161 rfl rfl)⟩, (zx_i4 162 rfl rfl), (zx_i4 163 rfl rfl), _, _, rfl⟩
set_option maxRecDepth 20000 in
theorem k_BlockWriter_40 : zi_lkV "SortedBlocks$BlockWriter" 40 M_BitWriter_put 2 3 := ⟨⟨(zx_i4 33 rfl rfl), (zx_i1 11 rfl rfl), ⟨by decide +kernel, by decide +kernel, by decide +kernel⟩, Or.inl (zx_i4 30 rfl rfl)⟩, (zx_i4 31 rfl rfl), (zx_i4 32 rfl rfl), _, _, rfl⟩
set_option maxRecDepth 20000 in
theorem k_BlockWriter_45 : zi_lkV "SortedBlocks$BlockWriter" 45 M_BitWriter_fillByte 0 3 := ⟨⟨(zx_i4 176 rfl rfl), (zx_i1 11 rfl rfl), ⟨by decide +kernel, by decide +kernel, by decide +kernel⟩, Or.inl (zx_i4 173 rfl rfl)⟩, (zx_i4 174 rfl rfl), (zx_i4 175 rfl rfl), _, _, rfl⟩
set_option maxRecDepth 20000 in
theorem k_BlockWriter_58 : zi_lkV "SortedBlocks$BlockWriter" 58 M_BlockWriter_writeMap 1 7 := ⟨⟨(zx_i4 138 rfl rfl), (zx_i1 10 rfl rfl), ⟨by decide +kernel, by decide +kernel, by decide +kernel⟩, Or.inl (zx_i4 135 rfl rfl)⟩, (zx_i4 137 rfl rfl), (zx_i0 30 rfl rfl), _, _, rfl⟩
set_option maxRecDepth 20000 in
theorem k_BlockWriter_68 : zi_lkV "SortedBlocks$BlockWriter" 68 M_BlockWriter_writePicks 1 7 := ⟨⟨(zx_i4 144 rfl rfl), (zx_i1 10 rfl rfl), ⟨by decide +kernel, by decide +kernel, by decide +kernel⟩, Or.inl (zx_i4 141 rfl rfl)⟩, (zx_i4 143 rfl rfl), (zx_i0 31 rfl rfl), _, _, rfl⟩
set_option maxRecDepth 20000 in
theorem k_BlockWriter_75 : zi_lkV "SortedBlocks$BlockWriter" 75 M_Block_symbolKinds 0 4 := ⟨⟨(zx_i2 216 rfl rfl), (zx_i1 12 rfl rfl), ⟨by decide +kernel, by decide +kernel, by decide +kernel⟩, Or.inl (zx_i4 147 rfl rfl)⟩, (zx_i2 214 rfl rfl), (zx_i2 215 rfl rfl), _, _, rfl⟩
set_option maxRecDepth 20000 in
theorem k_BlockWriter_79 : zi_lkV "SortedBlocks$BlockWriter" 79 M_BlockWriter_writeLengths 2 7 := ⟨⟨(zx_i4 151 rfl rfl), (zx_i1 10 rfl rfl), ⟨by decide +kernel, by decide +kernel, by decide +kernel⟩, Or.inl (zx_i4 148 rfl rfl)⟩, (zx_i4 150 rfl rfl), (zx_i0 32 rfl rfl), _, _, rfl⟩
set_option maxRecDepth 20000 in
theorem k_BlockWriter_83 : zi_lkV "SortedBlocks$BlockWriter" 83 M_Codes_setTo 2 8 := ⟨⟨(zx_i2 231 rfl rfl), (zx_i1 6 rfl rfl), ⟨by decide +kernel, by decide +kernel, by decide +kernel⟩, Or.inl (zx_i4 155 rfl rfl)⟩, (zx_i2 229 rfl rfl), (zx_i2 230 rfl rfl), _, _, rfl⟩
set_option maxRecDepth 20000 in
theorem k_BlockWriter_86 : zi_lkV "SortedBlocks$BlockWriter" 86 M_BlockWriter_writeSymbols 1 7 := ⟨⟨(zx_i4 159 rfl rfl), (zx_i1 10 rfl rfl), ⟨by decide +kernel, by decide +kernel, by decide +kernel⟩, Or.inl (zx_i4 156 rfl rfl)⟩, (zx_i4 158 rfl rfl), (zx_i0 33 rfl rfl), _, _, rfl⟩
set_option maxRecDepth 20000 in
theorem k_BlockWriter_89 : zi_lkS "SortedBlocks$BlockWriter" 89 M_Arrays_fill 2 := ⟨⟨(zx_i2 239 rfl rfl), (zx_i1 21 rfl rfl), ⟨by decide +kernel, by decide +kernel, by decide +kernel⟩, Or.inl (zx_i4 139 rfl rfl)⟩, (zx_i2 238 rfl rfl)⟩
set_option maxRecDepth 20000 in
theorem w_min_Codes_27 : zi_wm "SortedBlocks$Codes" 27 Lib.Math.min.name Lib.Math.min.code 2 := ⟨(zx_i2 232 rfl rfl), (zx_i2 194 rfl rfl), (zx_i1 22 rfl rfl), (zx_i2 195 rfl rfl)⟩
set_option maxRecDepth 20000 in
theorem k_Codes_33 : zi_lkV "SortedBlocks$Codes" 33 M_Codes_countLengths 2 8 := ⟨⟨(zx_i2 236 rfl rfl), (zx_i1 6 rfl rfl), ⟨by decide +kernel, by decide +kernel, by decide +kernel⟩, Or.inl (zx_i2 233 rfl rfl)⟩, (zx_i2 235 rfl rfl), (zx_i0 8 rfl rfl), _, _, rfl⟩
set_option maxRecDepth 20000 in
theorem k_Codes_37 : zi_lkV "SortedBlocks$Codes" 37 M_Codes_placeLengths 0 8 := ⟨⟨(zx_i3 4 rfl rfl), (zx_i1 6 rfl rfl), ⟨by decide +kernel, by decide +kernel, by decide +kernel⟩, Or.inl (zx_i3 1 rfl rfl)⟩, (zx_i3 3 rfl rfl), (zx_i0 9 rfl rfl), _, _, rfl⟩
set_option maxRecDepth 20000 in
theorem k_Codes_40 : zi_lkS "SortedBlocks$Codes" 40 M_Arrays_fill 2 := ⟨⟨(zx_i2 239 rfl rfl), (zx_i1 21 rfl rfl), ⟨by decide +kernel, by decide +kernel, by decide +kernel⟩, Or.inl (zx_i2 237 rfl rfl)⟩, (zx_i2 238 rfl rfl)⟩
set_option maxRecDepth 20000 in
theorem k_Codes_45 : zi_lkS "SortedBlocks$Codes" 45 M_Codes_isLength 1 := ⟨⟨(zx_i2 223 rfl rfl), (zx_i1 6 rfl rfl), ⟨by decide +kernel, by decide +kernel, by decide +kernel⟩, Or.inl (zx_i3 0 rfl rfl)⟩, (zx_i2 222 rfl rfl)⟩
set_option maxRecDepth 20000 in
theorem k_Codes_49 : zi_lkS "SortedBlocks$Codes" 49 M_Codes_mask 1 := ⟨⟨(zx_i3 7 rfl rfl), (zx_i1 6 rfl rfl), ⟨by decide +kernel, by decide +kernel, by decide +kernel⟩, Or.inl (zx_i3 5 rfl rfl)⟩, (zx_i3 6 rfl rfl)⟩
set_option maxRecDepth 20000 in
theorem w_min_MoveList_19 : zi_wm "SortedBlocks$MoveList" 19 Lib.Math.min.name Lib.Math.min.code 2 := ⟨(zx_i2 193 rfl rfl), (zx_i2 194 rfl rfl), (zx_i1 22 rfl rfl), (zx_i2 195 rfl rfl)⟩
set_option maxRecDepth 20000 in
theorem w_copy_MoveList_25 : zi_wc "SortedBlocks$MoveList" 25 := ⟨(zx_i2 206 rfl rfl), (zx_i2 208 rfl rfl), (zx_i2 207 rfl rfl), (zx_i1 20 rfl rfl)⟩
set_option maxRecDepth 20000 in
theorem k_MoveList_31 : zi_lkV "SortedBlocks$MoveList" 31 M_MoveList_movePlace 1 9 := ⟨⟨(zx_i2 205 rfl rfl), (zx_i1 5 rfl rfl), ⟨by decide +kernel, by decide +kernel, by decide +kernel⟩, Or.inl (zx_i4 79 rfl rfl)⟩, (zx_i2 203 rfl rfl), (zx_i2 204 rfl rfl), _, _, rfl⟩
set_option maxRecDepth 20000 in
theorem k_Picker_37 : zi_lkV "SortedBlocks$Picker" 37 M_Picker_weigh 2 10 := ⟨⟨(zx_i4 92 rfl rfl), (zx_i1 8 rfl rfl), ⟨by decide +kernel, by decide +kernel, by decide +kernel⟩, Or.inl (zx_i4 89 rfl rfl)⟩, (zx_i4 91 rfl rfl), (zx_i0 23 rfl rfl), _, _, rfl⟩
set_option maxRecDepth 20000 in
theorem k_Picker_41 : zi_lkV "SortedBlocks$Picker" 41 M_Block_symbolKinds 0 4 := ⟨⟨(zx_i2 216 rfl rfl), (zx_i1 12 rfl rfl), ⟨by decide +kernel, by decide +kernel, by decide +kernel⟩, Or.inl (zx_i4 98 rfl rfl)⟩, (zx_i2 214 rfl rfl), (zx_i2 215 rfl rfl), _, _, rfl⟩
set_option maxRecDepth 20000 in
theorem k_Picker_49 : zi_lkV "SortedBlocks$Picker" 49 M_Trees_findLengths 3 12 := ⟨⟨(zx_i4 102 rfl rfl), (zx_i1 9 rfl rfl), ⟨by decide +kernel, by decide +kernel, by decide +kernel⟩, Or.inl (zx_i4 99 rfl rfl)⟩, (zx_i4 100 rfl rfl), (zx_i4 101 rfl rfl), _, _, rfl⟩
set_option maxRecDepth 20000 in
theorem k_Picker_53 : zi_lkV "SortedBlocks$Picker" 53 M_Picker_cheapest 2 10 := ⟨⟨(zx_i4 124 rfl rfl), (zx_i1 8 rfl rfl), ⟨by decide +kernel, by decide +kernel, by decide +kernel⟩, Or.inl (zx_i4 121 rfl rfl)⟩, (zx_i4 123 rfl rfl), (zx_i0 28 rfl rfl), _, _, rfl⟩
set_option maxRecDepth 20000 in
theorem k_Picker_57 : zi_lkS "SortedBlocks$Picker" 57 M_Arrays_fill 2 := ⟨⟨(zx_i2 239 rfl rfl), (zx_i1 21 rfl rfl), ⟨by decide +kernel, by decide +kernel, by decide +kernel⟩, Or.inl (zx_i4 93 rfl rfl)⟩, (zx_i2 238 rfl rfl)⟩
set_option maxRecDepth 20000 in
theorem k_Picker_63 : zi_lkV "SortedBlocks$Picker" 63 M_Block_pickOfSymbol 1 4 := ⟨⟨(zx_i3 19 rfl rfl), (zx_i1 12 rfl rfl), ⟨by decide +kernel, by decide +kernel, by decide +kernel⟩, Or.inl (zx_i4 94 rfl rfl)⟩, (zx_i3 17 rfl rfl), (zx_i3 18 rfl rfl), _, _, rfl⟩
set_option maxRecDepth 20000 in
theorem w_max_Picker_70 : zi_wm "SortedBlocks$Picker" 70 Lib.Math.max.name Lib.Math.max.code 2 := ⟨(zx_i4 95 rfl rfl), (zx_i4 96 rfl rfl), (zx_i1 22 rfl rfl), (zx_i4 97 rfl rfl)⟩
set_option maxRecDepth 20000 in
theorem k_Picker_76 : zi_lkV "SortedBlocks$Picker" 76 M_Picker_cost 3 10 := ⟨⟨(zx_i4 128 rfl rfl), (zx_i1 8 rfl rfl), ⟨by decide +kernel, by decide +kernel, by decide +kernel⟩, Or.inl (zx_i4 125 rfl rfl)⟩, (zx_i4 127 rfl rfl), (zx_i0 29 rfl rfl), _, _, rfl⟩
set_option maxRecDepth 20000 in
theorem w_min_Picker_80 : zi_wm "SortedBlocks$Picker" 80 Lib.Math.min.name Lib.Math.min.code 2 := ⟨(zx_i4 129 rfl rfl), (zx_i2 194 rfl rfl), (zx_i1 22 rfl rfl), (zx_i2 195 rfl rfl)⟩
set_option maxRecDepth 20000 in
theorem k_Row_17 : zi_lkV "SortedBlocks$Row" 17 M_Row_hasRoom 1 11 := ⟨⟨(zx_i3 84 rfl rfl), (zx_i1 2 rfl rfl), ⟨by decide +kernel, by decide +kernel, by decide +kernel⟩, Or.inl (zx_i3 81 rfl rfl)⟩, (zx_i3 82 rfl rfl), (zx_i3 83 rfl rfl), _, _, rfl⟩
set_option maxRecDepth 20000 in
theorem w_copy_Row_21 : zi_wc "SortedBlocks$Row" 21 := ⟨(zx_i3 85 rfl rfl), (zx_i2 208 rfl rfl), (zx_i2 207 rfl rfl), (zx_i1 20 rfl rfl)⟩
set_option maxRecDepth 20000 in
theorem w_min_Trees_34 : zi_wm "SortedBlocks$Trees" 34 Lib.Math.min.name Lib.Math.min.code 2 := ⟨(zx_i4 103 rfl rfl), (zx_i2 194 rfl rfl), (zx_i1 22 rfl rfl), (zx_i2 195 rfl rfl)⟩
set_option maxRecDepth 20000 in
theorem w_copy_Trees_40 : zi_wc "SortedBlocks$Trees" 40 := ⟨(zx_i4 104 rfl rfl), (zx_i2 208 rfl rfl), (zx_i2 207 rfl rfl), (zx_i1 20 rfl rfl)⟩
set_option maxRecDepth 20000 in
theorem k_Trees_46 : zi_lkV "SortedBlocks$Trees" 46 M_Trees_sortSymbols 0 12 := ⟨⟨(zx_i4 108 rfl rfl), (zx_i1 9 rfl rfl), ⟨by decide +kernel, by decide +kernel, by decide +kernel⟩, Or.inl (zx_i4 105 rfl rfl)⟩, (zx_i4 107 rfl rfl), (zx_i0 24 rfl rfl), _, _, rfl⟩
set_option maxRecDepth 20000 in
theorem k_Trees_49 : zi_lkV "SortedBlocks$Trees" 49 M_Trees_joinTrees 0 12 := ⟨⟨(zx_i4 112 rfl rfl), (zx_i1 9 rfl rfl), ⟨by decide +kernel, by decide +kernel, by decide +kernel⟩, Or.inl (zx_i4 109 rfl rfl)⟩, (zx_i4 111 rfl rfl), (zx_i0 25 rfl rfl), _, _, rfl⟩
set_option maxRecDepth 20000 in
theorem k_Trees_52 : zi_lkV "SortedBlocks$Trees" 52 M_Trees_measureDepths 0 12 := ⟨⟨(zx_i4 120 rfl rfl), (zx_i1 9 rfl rfl), ⟨by decide +kernel, by decide +kernel, by decide +kernel⟩, Or.inl (zx_i4 117 rfl rfl)⟩, (zx_i4 119 rfl rfl), (zx_i0 27 rfl rfl), _, _, rfl⟩
set_option maxRecDepth 20000 in
theorem k_Trees_55 : zi_lkV "SortedBlocks$Trees" 55 M_Trees_takeFirst 1 12 := ⟨⟨(zx_i4 116 rfl rfl), (zx_i1 9 rfl rfl), ⟨by decide +kernel, by decide +kernel, by decide +kernel⟩, Or.inl (zx_i4 113 rfl rfl)⟩, (zx_i4 115 rfl rfl), (zx_i0 26 rfl rfl), _, _, rfl⟩
set_option maxRecDepth 20000 in
theorem k_Main_100 : zi_lkV "SortedBlocks" 100 M_Row_cut 1 11 := ⟨⟨(zx_i2 136 rfl rfl), (zx_i1 2 rfl rfl), ⟨by decide +kernel, by decide +kernel, by decide +kernel⟩, Or.inl (zx_i2 133 rfl rfl)⟩, (zx_i2 134 rfl rfl), (zx_i2 135 rfl rfl), _, _, rfl⟩
set_option maxRecDepth 20000 in
theorem k_Main_111 : zi_lkV "SortedBlocks" 111 M_Row_addAll 1 11 := ⟨⟨(zx_i3 80 rfl rfl), (zx_i1 2 rfl rfl), ⟨by decide +kernel, by decide +kernel, by decide +kernel⟩, Or.inl (zx_i3 77 rfl rfl)⟩, (zx_i3 78 rfl rfl), (zx_i3 79 rfl rfl), _, _, rfl⟩
set_option maxRecDepth 20000 in
theorem k_Main_130 : zi_lkS "SortedBlocks" 130 M_Main_nextTotal 2 := ⟨⟨(zx_i4 167 rfl rfl), (zx_i1 1 rfl rfl), ⟨by decide +kernel, by decide +kernel, by decide +kernel⟩, Or.inl (zx_i4 165 rfl rfl)⟩, (zx_i4 166 rfl rfl)⟩
set_option maxRecDepth 20000 in
theorem k_Main_137 : zi_lkV "SortedBlocks" 137 M_BitReader_goTo 1 2 := ⟨⟨(zx_i2 144 rfl rfl), (zx_i1 3 rfl rfl), ⟨by decide +kernel, by decide +kernel, by decide +kernel⟩, Or.inl (zx_i4 186 rfl rfl)⟩, (zx_i2 142 rfl rfl), (zx_i2 143 rfl rfl), _, _, rfl⟩
set_option maxRecDepth 20000 in
theorem k_Main_140 : zi_lkV "SortedBlocks" 140 M_Main_readStream 0 0 := ⟨⟨(zx_i4 190 rfl rfl), (zx_i1 1 rfl rfl), ⟨by decide +kernel, by decide +kernel, by decide +kernel⟩, Or.inl (zx_i4 187 rfl rfl)⟩, (zx_i4 189 rfl rfl), (zx_i0 34 rfl rfl), _, _, rfl⟩
set_option maxRecDepth 20000 in
theorem k_Main_156 : zi_lkV "SortedBlocks" 156 M_Main_tellNext 0 0 := ⟨⟨(zx_i3 72 rfl rfl), (zx_i1 1 rfl rfl), ⟨by decide +kernel, by decide +kernel, by decide +kernel⟩, Or.inl (zx_i3 69 rfl rfl)⟩, (zx_i3 71 rfl rfl), (zx_i0 15 rfl rfl), _, _, rfl⟩
set_option maxRecDepth 20000 in
theorem k_Main_159 : zi_lkV "SortedBlocks" 159 M_Main_takeFresh 0 0 := ⟨⟨(zx_i3 76 rfl rfl), (zx_i1 1 rfl rfl), ⟨by decide +kernel, by decide +kernel, by decide +kernel⟩, Or.inl (zx_i3 73 rfl rfl)⟩, (zx_i3 75 rfl rfl), (zx_i0 16 rfl rfl), _, _, rfl⟩
set_option maxRecDepth 20000 in
theorem k_Main_162 : zi_lkV "SortedBlocks" 162 M_BitReader_findMark 1 2 := ⟨⟨(zx_i2 140 rfl rfl), (zx_i1 3 rfl rfl), ⟨by decide +kernel, by decide +kernel, by decide +kernel⟩, Or.inl (zx_i2 137 rfl rfl)⟩, (zx_i2 138 rfl rfl), (zx_i2 139 rfl rfl), _, _, rfl⟩
set_option maxRecDepth 20000 in
theorem k_Main_168 : zi_lkV "SortedBlocks" 168 M_BlockReader_readBlock 3 6 := ⟨⟨(zx_i2 154 rfl rfl), (zx_i1 4 rfl rfl), ⟨by decide +kernel, by decide +kernel, by decide +kernel⟩, Or.inl (zx_i2 151 rfl rfl)⟩, (zx_i2 152 rfl rfl), (zx_i2 153 rfl rfl), _, _, rfl⟩
set_option maxRecDepth 20000 in
theorem k_Main_174 : zi_lkV "SortedBlocks" 174 M_Row_get 1 11 := ⟨⟨(zx_i3 67 rfl rfl), (zx_i1 2 rfl rfl), ⟨by decide +kernel, by decide +kernel, by decide +kernel⟩, Or.inl (zx_i3 64 rfl rfl)⟩, (zx_i3 65 rfl rfl), (zx_i3 66 rfl rfl), _, _, rfl⟩
set_option maxRecDepth 20000 in
theorem k_Main_195 : zi_lkV "SortedBlocks" 195 M_Block_symbolKinds 0 4 := ⟨⟨(zx_i2 216 rfl rfl), (zx_i1 12 rfl rfl), ⟨by decide +kernel, by decide +kernel, by decide +kernel⟩, Or.inl (zx_i3 114 rfl rfl)⟩, (zx_i2 214 rfl rfl), (zx_i2 215 rfl rfl), _, _, rfl⟩
set_option maxRecDepth 20000 in
theorem k_Main_208 : zi_lkV "SortedBlocks" 208 M_Main_readHead 0 0 := ⟨⟨(zx_i4 194 rfl rfl), (zx_i1 1 rfl rfl), ⟨by decide +kernel, by decide +kernel, by decide +kernel⟩, Or.inl (zx_i4 191 rfl rfl)⟩, (zx_i4 193 rfl rfl), (zx_i0 35 rfl rfl), _, _, rfl⟩
set_option maxRecDepth 20000 in
theorem k_Main_211 : zi_lkV "SortedBlocks" 211 M_BitReader_takeNumber 1 2 := ⟨⟨(zx_i2 162 rfl rfl), (zx_i1 3 rfl rfl), ⟨by decide +kernel, by decide +kernel, by decide +kernel⟩, Or.inl (zx_i4 195 rfl rfl)⟩, (zx_i2 160 rfl rfl), (zx_i2 161 rfl rfl), _, _, rfl⟩
set_option maxRecDepth 20000 in
theorem k_Main_216 : zi_lkV "SortedBlocks" 216 M_Main_readTotal 1 0 := ⟨⟨(zx_i4 201 rfl rfl), (zx_i1 1 rfl rfl), ⟨by decide +kernel, by decide +kernel, by decide +kernel⟩, Or.inl (zx_i4 198 rfl rfl)⟩, (zx_i4 200 rfl rfl), (zx_i0 36 rfl rfl), _, _, rfl⟩
set_option maxRecDepth 20000 in
theorem k_Main_219 : zi_lkV "SortedBlocks" 219 M_BitReader_skipToByte 0 2 := ⟨⟨(zx_i4 205 rfl rfl), (zx_i1 3 rfl rfl), ⟨by decide +kernel, by decide +kernel, by decide +kernel⟩, Or.inl (zx_i4 202 rfl rfl)⟩, (zx_i4 203 rfl rfl), (zx_i4 204 rfl rfl), _, _, rfl⟩
set_option maxRecDepth 20000 in
theorem k_Main_83 : zi_lkV "SortedBlocks" 83 M_Row_hasRoom 1 11 := ⟨⟨(zx_i3 84 rfl rfl), (zx_i1 2 rfl rfl), ⟨by decide +kernel, by decide +kernel, by decide +kernel⟩, Or.inl (zx_i3 197 rfl rfl)⟩, (zx_i3 82 rfl rfl), (zx_i3 83 rfl rfl), _, _, rfl⟩
set_option maxRecDepth 20000 in
theorem k_Mod_101 : zi_lkV "SortedBlocksModel" 101 M_Mod_before 2 1 := ⟨⟨(zx_i5 193 rfl rfl), (zx_i1 13 rfl rfl), ⟨by decide +kernel, by decide +kernel, by decide +kernel⟩, Or.inl (zx_i5 190 rfl rfl)⟩, (zx_i5 192 rfl rfl), (zx_i0 42 rfl rfl), _, _, rfl⟩
set_option maxRecDepth 20000 in
theorem k_Mod_114 : zi_lkV "SortedBlocksModel" 114 M_Mod_addSymbol 1 1 := ⟨⟨(zx_i5 213 rfl rfl), (zx_i1 13 rfl rfl), ⟨by decide +kernel, by decide +kernel, by decide +kernel⟩, Or.inl (zx_i5 210 rfl rfl)⟩, (zx_i5 212 rfl rfl), (zx_i0 47 rfl rfl), _, _, rfl⟩
set_option maxRecDepth 20000 in
theorem k_Mod_118 : zi_lkV "SortedBlocksModel" 118 M_Mod_listUsed 0 1 := ⟨⟨(zx_i5 201 rfl rfl), (zx_i1 13 rfl rfl), ⟨by decide +kernel, by decide +kernel, by decide +kernel⟩, Or.inl (zx_i5 198 rfl rfl)⟩, (zx_i5 200 rfl rfl), (zx_i0 44 rfl rfl), _, _, rfl⟩
set_option maxRecDepth 20000 in
theorem k_Mod_121 : zi_lkV "SortedBlocksModel" 121 M_Mod_toFront 1 1 := ⟨⟨(zx_i5 205 rfl rfl), (zx_i1 13 rfl rfl), ⟨by decide +kernel, by decide +kernel, by decide +kernel⟩, Or.inl (zx_i5 202 rfl rfl)⟩, (zx_i5 204 rfl rfl), (zx_i0 45 rfl rfl), _, _, rfl⟩
set_option maxRecDepth 20000 in
theorem k_Mod_125 : zi_lkV "SortedBlocksModel" 125 M_Mod_addRun 1 1 := ⟨⟨(zx_i5 209 rfl rfl), (zx_i1 13 rfl rfl), ⟨by decide +kernel, by decide +kernel, by decide +kernel⟩, Or.inl (zx_i5 206 rfl rfl)⟩, (zx_i5 208 rfl rfl), (zx_i0 46 rfl rfl), _, _, rfl⟩
set_option maxRecDepth 20000 in
theorem k_Mod_128 : zi_lkV "SortedBlocksModel" 128 M_Mod_firstTree 2 1 := ⟨⟨(zx_i5 225 rfl rfl), (zx_i1 13 rfl rfl), ⟨by decide +kernel, by decide +kernel, by decide +kernel⟩, Or.inl (zx_i5 222 rfl rfl)⟩, (zx_i5 224 rfl rfl), (zx_i0 50 rfl rfl), _, _, rfl⟩
set_option maxRecDepth 20000 in
theorem k_Mod_137 : zi_lkV "SortedBlocksModel" 137 M_Mod_makeLengths 1 1 := ⟨⟨(zx_i5 221 rfl rfl), (zx_i1 13 rfl rfl), ⟨by decide +kernel, by decide +kernel, by decide +kernel⟩, Or.inl (zx_i5 218 rfl rfl)⟩, (zx_i5 220 rfl rfl), (zx_i0 49 rfl rfl), _, _, rfl⟩
set_option maxRecDepth 20000 in
theorem k_Mod_140 : zi_lkV "SortedBlocksModel" 140 M_Mod_costOf 2 1 := ⟨⟨(zx_i5 229 rfl rfl), (zx_i1 13 rfl rfl), ⟨by decide +kernel, by decide +kernel, by decide +kernel⟩, Or.inl (zx_i5 226 rfl rfl)⟩, (zx_i5 228 rfl rfl), (zx_i0 51 rfl rfl), _, _, rfl⟩
set_option maxRecDepth 20000 in
theorem k_Mod_143 : zi_lkV "SortedBlocksModel" 143 M_Mod_makeCodes 1 1 := ⟨⟨(zx_i5 233 rfl rfl), (zx_i1 13 rfl rfl), ⟨by decide +kernel, by decide +kernel, by decide +kernel⟩, Or.inl (zx_i5 230 rfl rfl)⟩, (zx_i5 232 rfl rfl), (zx_i0 52 rfl rfl), _, _, rfl⟩
set_option maxRecDepth 20000 in
theorem k_Mod_149 : zi_lkV "SortedBlocksModel" 149 M_Mod_mapOf 2 1 := ⟨⟨(zx_i6 6 rfl rfl), (zx_i1 13 rfl rfl), ⟨by decide +kernel, by decide +kernel, by decide +kernel⟩, Or.inl (zx_i6 3 rfl rfl)⟩, (zx_i6 5 rfl rfl), (zx_i0 55 rfl rfl), _, _, rfl⟩
set_option maxRecDepth 20000 in
theorem k_Mod_152 : zi_lkV "SortedBlocksModel" 152 M_Mod_write 2 1 := ⟨⟨(zx_i5 168 rfl rfl), (zx_i1 13 rfl rfl), ⟨by decide +kernel, by decide +kernel, by decide +kernel⟩, Or.inl (zx_i5 165 rfl rfl)⟩, (zx_i5 167 rfl rfl), (zx_i0 37 rfl rfl), _, _, rfl⟩
set_option maxRecDepth 20000 in
theorem k_Mod_156 : zi_lkV "SortedBlocksModel" 156 M_Mod_beginOrder 0 1 := ⟨⟨(zx_i6 14 rfl rfl), (zx_i1 13 rfl rfl), ⟨by decide +kernel, by decide +kernel, by decide +kernel⟩, Or.inl (zx_i6 11 rfl rfl)⟩, (zx_i6 13 rfl rfl), (zx_i0 57 rfl rfl), _, _, rfl⟩
set_option maxRecDepth 20000 in
theorem k_Mod_159 : zi_lkV "SortedBlocksModel" 159 M_Mod_orderFront 1 1 := ⟨⟨(zx_i6 18 rfl rfl), (zx_i1 13 rfl rfl), ⟨by decide +kernel, by decide +kernel, by decide +kernel⟩, Or.inl (zx_i6 15 rfl rfl)⟩, (zx_i6 17 rfl rfl), (zx_i0 58 rfl rfl), _, _, rfl⟩
set_option maxRecDepth 20000 in
theorem k_Mod_166 : zi_lkV "SortedBlocksModel" 166 M_Mod_writeMaps 0 1 := ⟨⟨(zx_i6 2 rfl rfl), (zx_i1 13 rfl rfl), ⟨by decide +kernel, by decide +kernel, by decide +kernel⟩, Or.inl (zx_i5 239 rfl rfl)⟩, (zx_i6 1 rfl rfl), (zx_i0 54 rfl rfl), _, _, rfl⟩
set_option maxRecDepth 20000 in
theorem k_Mod_169 : zi_lkV "SortedBlocksModel" 169 M_Mod_writePicks 0 1 := ⟨⟨(zx_i6 10 rfl rfl), (zx_i1 13 rfl rfl), ⟨by decide +kernel, by decide +kernel, by decide +kernel⟩, Or.inl (zx_i6 7 rfl rfl)⟩, (zx_i6 9 rfl rfl), (zx_i0 56 rfl rfl), _, _, rfl⟩
set_option maxRecDepth 20000 in
theorem k_Mod_172 : zi_lkV "SortedBlocksModel" 172 M_Mod_writeTable 1 1 := ⟨⟨(zx_i6 22 rfl rfl), (zx_i1 13 rfl rfl), ⟨by decide +kernel, by decide +kernel, by decide +kernel⟩, Or.inl (zx_i6 19 rfl rfl)⟩, (zx_i6 21 rfl rfl), (zx_i0 59 rfl rfl), _, _, rfl⟩
set_option maxRecDepth 20000 in
theorem k_Mod_175 : zi_lkV "SortedBlocksModel" 175 M_Mod_shorten 2 1 := ⟨⟨(zx_i5 176 rfl rfl), (zx_i1 13 rfl rfl), ⟨by decide +kernel, by decide +kernel, by decide +kernel⟩, Or.inl (zx_i5 173 rfl rfl)⟩, (zx_i5 175 rfl rfl), (zx_i0 39 rfl rfl), _, _, rfl⟩
set_option maxRecDepth 20000 in
theorem k_Mod_178 : zi_lkV "SortedBlocksModel" 178 M_Mod_checkOf 0 1 := ⟨⟨(zx_i5 180 rfl rfl), (zx_i1 13 rfl rfl), ⟨by decide +kernel, by decide +kernel, by decide +kernel⟩, Or.inl (zx_i5 177 rfl rfl)⟩, (zx_i5 179 rfl rfl), (zx_i0 40 rfl rfl), _, _, rfl⟩
set_option maxRecDepth 20000 in
theorem k_Mod_182 : zi_lkV "SortedBlocksModel" 182 M_Mod_sort 0 1 := ⟨⟨(zx_i5 189 rfl rfl), (zx_i1 13 rfl rfl), ⟨by decide +kernel, by decide +kernel, by decide +kernel⟩, Or.inl (zx_i5 186 rfl rfl)⟩, (zx_i5 188 rfl rfl), (zx_i0 41 rfl rfl), _, _, rfl⟩
set_option maxRecDepth 20000 in
theorem k_Mod_185 : zi_lkV "SortedBlocksModel" 185 M_Mod_makeSymbols 0 1 := ⟨⟨(zx_i5 197 rfl rfl), (zx_i1 13 rfl rfl), ⟨by decide +kernel, by decide +kernel, by decide +kernel⟩, Or.inl (zx_i5 194 rfl rfl)⟩, (zx_i5 196 rfl rfl), (zx_i0 43 rfl rfl), _, _, rfl⟩
set_option maxRecDepth 20000 in
theorem k_Mod_188 : zi_lkV "SortedBlocksModel" 188 M_Mod_pick 0 1 := ⟨⟨(zx_i5 217 rfl rfl), (zx_i1 13 rfl rfl), ⟨by decide +kernel, by decide +kernel, by decide +kernel⟩, Or.inl (zx_i5 214 rfl rfl)⟩, (zx_i5 216 rfl rfl), (zx_i0 48 rfl rfl), _, _, rfl⟩
set_option maxRecDepth 20000 in
theorem k_Mod_191 : zi_lkV "SortedBlocksModel" 191 M_Mod_writeBlock 0 1 := ⟨⟨(zx_i5 237 rfl rfl), (zx_i1 13 rfl rfl), ⟨by decide +kernel, by decide +kernel, by decide +kernel⟩, Or.inl (zx_i5 234 rfl rfl)⟩, (zx_i5 236 rfl rfl), (zx_i0 53 rfl rfl), _, _, rfl⟩
set_option maxRecDepth 20000 in
theorem k_Mod_218 : zi_lkV "SortedBlocksModel" 218 M_Mod_packBlock 2 1 := ⟨⟨(zx_i5 172 rfl rfl), (zx_i1 13 rfl rfl), ⟨by decide +kernel, by decide +kernel, by decide +kernel⟩, Or.inl (zx_i5 169 rfl rfl)⟩, (zx_i5 171 rfl rfl), (zx_i0 38 rfl rfl), _, _, rfl⟩
set_option maxRecDepth 20000 in
theorem k_Mod_221 : zi_lkS "SortedBlocksModel" 221 M_Mod_addTotal 2 := ⟨⟨(zx_i6 25 rfl rfl), (zx_i1 13 rfl rfl), ⟨by decide +kernel, by decide +kernel, by decide +kernel⟩, Or.inl (zx_i6 23 rfl rfl)⟩, (zx_i6 24 rfl rfl)⟩
set_option maxRecDepth 20000 in
theorem k_Mod_224 : zi_lkV "SortedBlocksModel" 224 M_Mod_remember 0 1 := ⟨⟨(zx_i6 29 rfl rfl), (zx_i1 13 rfl rfl), ⟨by decide +kernel, by decide +kernel, by decide +kernel⟩, Or.inl (zx_i6 26 rfl rfl)⟩, (zx_i6 28 rfl rfl), (zx_i0 60 rfl rfl), _, _, rfl⟩
set_option maxRecDepth 20000 in
theorem k_Mod_228 : zi_lkV "SortedBlocksModel" 228 M_Mod_takeOver 0 1 := ⟨⟨(zx_i6 34 rfl rfl), (zx_i1 13 rfl rfl), ⟨by decide +kernel, by decide +kernel, by decide +kernel⟩, Or.inl (zx_i6 31 rfl rfl)⟩, (zx_i6 33 rfl rfl), (zx_i0 61 rfl rfl), _, _, rfl⟩
set_option maxRecDepth 20000 in
theorem k_Mod_240 : zi_lkV "SortedBlocksModel" 240 M_Mod_fail 2 1 := ⟨⟨(zx_i6 50 rfl rfl), (zx_i1 13 rfl rfl), ⟨by decide +kernel, by decide +kernel, by decide +kernel⟩, Or.inl (zx_i6 47 rfl rfl)⟩, (zx_i6 49 rfl rfl), (zx_i0 64 rfl rfl), _, _, rfl⟩
set_option maxRecDepth 20000 in
theorem k_Mod_243 : zi_lkV "SortedBlocksModel" 243 M_Mod_take 2 1 := ⟨⟨(zx_i6 46 rfl rfl), (zx_i1 13 rfl rfl), ⟨by decide +kernel, by decide +kernel, by decide +kernel⟩, Or.inl (zx_i6 43 rfl rfl)⟩, (zx_i6 45 rfl rfl), (zx_i0 63 rfl rfl), _, _, rfl⟩
set_option maxRecDepth 20000 in
theorem k_Mod_246 : zi_lkV "SortedBlocksModel" 246 M_Mod_failIf 3 1 := ⟨⟨(zx_i6 54 rfl rfl), (zx_i1 13 rfl rfl), ⟨by decide +kernel, by decide +kernel, by decide +kernel⟩, Or.inl (zx_i6 51 rfl rfl)⟩, (zx_i6 53 rfl rfl), (zx_i0 65 rfl rfl), _, _, rfl⟩
set_option maxRecDepth 20000 in
theorem k_Mod_250 : zi_lkV "SortedBlocksModel" 250 M_Mod_decode 3 1 := ⟨⟨(zx_i6 82 rfl rfl), (zx_i1 13 rfl rfl), ⟨by decide +kernel, by decide +kernel, by decide +kernel⟩, Or.inl (zx_i6 79 rfl rfl)⟩, (zx_i6 81 rfl rfl), (zx_i0 72 rfl rfl), _, _, rfl⟩
set_option maxRecDepth 20000 in
theorem k_Mod_254 : zi_lkV "SortedBlocksModel" 254 M_Mod_readSymbol 1 1 := ⟨⟨(zx_i6 78 rfl rfl), (zx_i1 13 rfl rfl), ⟨by decide +kernel, by decide +kernel, by decide +kernel⟩, Or.inl (zx_i6 75 rfl rfl)⟩, (zx_i6 77 rfl rfl), (zx_i0 71 rfl rfl), _, _, rfl⟩
set_option maxRecDepth 20000 in
theorem k_Mod_257 : zi_lkV "SortedBlocksModel" 257 M_Mod_addColumn 2 1 := ⟨⟨(zx_i6 86 rfl rfl), (zx_i1 13 rfl rfl), ⟨by decide +kernel, by decide +kernel, by decide +kernel⟩, Or.inl (zx_i6 83 rfl rfl)⟩, (zx_i6 85 rfl rfl), (zx_i0 73 rfl rfl), _, _, rfl⟩
set_option maxRecDepth 20000 in
theorem k_Mod_263 : zi_lkV "SortedBlocksModel" 263 M_Mod_readMaps 0 1 := ⟨⟨(zx_i6 62 rfl rfl), (zx_i1 13 rfl rfl), ⟨by decide +kernel, by decide +kernel, by decide +kernel⟩, Or.inl (zx_i6 59 rfl rfl)⟩, (zx_i6 61 rfl rfl), (zx_i0 67 rfl rfl), _, _, rfl⟩
set_option maxRecDepth 20000 in
theorem k_Mod_266 : zi_lkV "SortedBlocksModel" 266 M_Mod_readPicks 0 1 := ⟨⟨(zx_i6 66 rfl rfl), (zx_i1 13 rfl rfl), ⟨by decide +kernel, by decide +kernel, by decide +kernel⟩, Or.inl (zx_i6 63 rfl rfl)⟩, (zx_i6 65 rfl rfl), (zx_i0 68 rfl rfl), _, _, rfl⟩
set_option maxRecDepth 20000 in
theorem k_Mod_269 : zi_lkV "SortedBlocksModel" 269 M_Mod_readTable 1 1 := ⟨⟨(zx_i6 70 rfl rfl), (zx_i1 13 rfl rfl), ⟨by decide +kernel, by decide +kernel, by decide +kernel⟩, Or.inl (zx_i6 67 rfl rfl)⟩, (zx_i6 69 rfl rfl), (zx_i0 69 rfl rfl), _, _, rfl⟩
set_option maxRecDepth 20000 in
theorem k_Mod_272 : zi_lkV "SortedBlocksModel" 272 M_Mod_readSymbols 1 1 := ⟨⟨(zx_i6 74 rfl rfl), (zx_i1 13 rfl rfl), ⟨by decide +kernel, by decide +kernel, by decide +kernel⟩, Or.inl (zx_i6 71 rfl rfl)⟩, (zx_i6 73 rfl rfl), (zx_i0 70 rfl rfl), _, _, rfl⟩
set_option maxRecDepth 20000 in
theorem k_Mod_275 : zi_lkV "SortedBlocksModel" 275 M_Mod_unsort 0 1 := ⟨⟨(zx_i6 90 rfl rfl), (zx_i1 13 rfl rfl), ⟨by decide +kernel, by decide +kernel, by decide +kernel⟩, Or.inl (zx_i6 87 rfl rfl)⟩, (zx_i6 89 rfl rfl), (zx_i0 74 rfl rfl), _, _, rfl⟩
set_option maxRecDepth 20000 in
theorem k_Mod_278 : zi_lkV "SortedBlocksModel" 278 M_Mod_lengthen 0 1 := ⟨⟨(zx_i6 94 rfl rfl), (zx_i1 13 rfl rfl), ⟨by decide +kernel, by decide +kernel, by decide +kernel⟩, Or.inl (zx_i6 91 rfl rfl)⟩, (zx_i6 93 rfl rfl), (zx_i0 75 rfl rfl), _, _, rfl⟩
set_option maxRecDepth 20000 in
theorem k_Mod_282 : zi_lkV "SortedBlocksModel" 282 M_Mod_readBlock 1 1 := ⟨⟨(zx_i6 58 rfl rfl), (zx_i1 13 rfl rfl), ⟨by decide +kernel, by decide +kernel, by decide +kernel⟩, Or.inl (zx_i6 55 rfl rfl)⟩, (zx_i6 57 rfl rfl), (zx_i0 66 rfl rfl), _, _, rfl⟩
set_option maxRecDepth 20000 in
theorem k_Mod_285 : zi_lkV "SortedBlocksModel" 285 M_Mod_tooMuch 0 1 := ⟨⟨(zx_i6 98 rfl rfl), (zx_i1 13 rfl rfl), ⟨by decide +kernel, by decide +kernel, by decide +kernel⟩, Or.inl (zx_i6 95 rfl rfl)⟩, (zx_i6 97 rfl rfl), (zx_i0 76 rfl rfl), _, _, rfl⟩
set_option maxRecDepth 20000 in
theorem k_Mod_288 : zi_lkV "SortedBlocksModel" 288 M_Mod_addBytes 0 1 := ⟨⟨(zx_i6 102 rfl rfl), (zx_i1 13 rfl rfl), ⟨by decide +kernel, by decide +kernel, by decide +kernel⟩, Or.inl (zx_i6 99 rfl rfl)⟩, (zx_i6 101 rfl rfl), (zx_i0 77 rfl rfl), _, _, rfl⟩
set_option maxRecDepth 20000 in
theorem k_Mod_291 : zi_lkV "SortedBlocksModel" 291 M_Mod_readStream 0 1 := ⟨⟨(zx_i6 42 rfl rfl), (zx_i1 13 rfl rfl), ⟨by decide +kernel, by decide +kernel, by decide +kernel⟩, Or.inl (zx_i6 39 rfl rfl)⟩, (zx_i6 41 rfl rfl), (zx_i0 62 rfl rfl), _, _, rfl⟩
set_option maxRecDepth 20000 in
theorem k_Mod_94 : zi_lkS "SortedBlocksModel" 94 M_Mod_step 2 := ⟨⟨(zx_i5 184 rfl rfl), (zx_i1 13 rfl rfl), ⟨by decide +kernel, by decide +kernel, by decide +kernel⟩, Or.inl (zx_i5 182 rfl rfl)⟩, (zx_i5 183 rfl rfl)⟩
