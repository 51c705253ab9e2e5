/-! Words of the constructors: written by wip/whole/gen/gencons.py. -/
set_option maxRecDepth 20000 in
theorem nw_Main : zn "SortedBlocks" 0 F_Main 12 t_Main := ⟨rfl, cw_Main, ct_Main, rfl, by decide +kernel, (zx_i1 25 rfl rfl), (zx_i1 1 rfl rfl)⟩
set_option maxRecDepth 20000 in
theorem nw_Mod : zn "SortedBlocksModel" 1 F_Mod 46 t_Mod := ⟨rfl, cw_Mod, ct_Mod, rfl, by decide +kernel, (zx_i4 235 rfl rfl), (zx_i1 13 rfl rfl)⟩
set_option maxRecDepth 20000 in
theorem nw_BitReader : zn "SortedBlocks$BitReader" 2 F_BitReader 3 t_BitReader := ⟨rfl, cw_BitReader, ct_BitReader, rfl, by decide +kernel, (zx_i1 53 rfl rfl), (zx_i1 3 rfl rfl)⟩
set_option maxRecDepth 20000 in
theorem nw_BitWriter : zn "SortedBlocks$BitWriter" 3 F_BitWriter 3 t_BitWriter := ⟨rfl, cw_BitWriter, ct_BitWriter, rfl, by decide +kernel, (zx_i1 205 rfl rfl), (zx_i1 11 rfl rfl)⟩
set_option maxRecDepth 20000 in
theorem nw_Block : zn "SortedBlocks$Block" 4 F_Block 13 t_Block := ⟨rfl, cw_Block, ct_Block, rfl, by decide +kernel, (zx_i1 235 rfl rfl), (zx_i1 12 rfl rfl)⟩
set_option maxRecDepth 20000 in
theorem nw_BlockMaker : zn "SortedBlocks$BlockMaker" 5 F_BlockMaker 4 t_BlockMaker := ⟨rfl, cw_BlockMaker, ct_BlockMaker, rfl, by decide +kernel, (zx_i1 134 rfl rfl), (zx_i1 7 rfl rfl)⟩
set_option maxRecDepth 20000 in
theorem nw_BlockReader : zn "SortedBlocks$BlockReader" 6 F_BlockReader 6 t_BlockReader := ⟨rfl, cw_BlockReader, ct_BlockReader, rfl, by decide +kernel, (zx_i1 73 rfl rfl), (zx_i1 4 rfl rfl)⟩
set_option maxRecDepth 20000 in
theorem nw_BlockWriter : zn "SortedBlocks$BlockWriter" 7 F_BlockWriter 4 t_BlockWriter := ⟨rfl, cw_BlockWriter, ct_BlockWriter, rfl, by decide +kernel, (zx_i1 196 rfl rfl), (zx_i1 10 rfl rfl)⟩
set_option maxRecDepth 20000 in
theorem nw_Codes : zn "SortedBlocks$Codes" 8 F_Codes 5 t_Codes := ⟨rfl, cw_Codes, ct_Codes, rfl, by decide +kernel, (zx_i1 93 rfl rfl), (zx_i1 6 rfl rfl)⟩
set_option maxRecDepth 20000 in
theorem nw_MoveList : zn "SortedBlocks$MoveList" 9 F_MoveList 2 t_MoveList := ⟨rfl, cw_MoveList, ct_MoveList, rfl, by decide +kernel, (zx_i1 79 rfl rfl), (zx_i1 5 rfl rfl)⟩
set_option maxRecDepth 20000 in
theorem nw_Picker : zn "SortedBlocks$Picker" 10 F_Picker 2 t_Picker := ⟨rfl, cw_Picker, ct_Picker, rfl, by decide +kernel, (zx_i1 142 rfl rfl), (zx_i1 8 rfl rfl)⟩
set_option maxRecDepth 20000 in
theorem nw_Row : zn "SortedBlocks$Row" 11 F_Row 2 t_Row := ⟨rfl, cw_Row, ct_Row, rfl, by decide +kernel, (zx_i1 33 rfl rfl), (zx_i1 2 rfl rfl)⟩
set_option maxRecDepth 20000 in
theorem nw_Trees : zn "SortedBlocks$Trees" 12 F_Trees 7 t_Trees := ⟨rfl, cw_Trees, ct_Trees, rfl, by decide +kernel, (zx_i1 148 rfl rfl), (zx_i1 9 rfl rfl)⟩
set_option maxRecDepth 20000 in
theorem no_im : Cond.instanceMethod Lib.objectInit ∈ zx_T := (zx_i1 30 rfl rfl)
set_option maxRecDepth 20000 in
theorem no_co : Cond.code Lib.objectInit ⟨#[0xb1]⟩ 1 none ∈ zx_T := (zx_i1 31 rfl rfl)
set_option maxRecDepth 20000 in
theorem na_int : Cond.arrayClass (newarray.typeOf .int) ∈ zx_T := (zx_i1 51 rfl rfl)
set_option maxRecDepth 20000 in
theorem na_boolean : Cond.arrayClass (newarray.typeOf .boolean) ∈ zx_T := (zx_i5 139 rfl rfl)
set_option maxRecDepth 20000 in
theorem na_long : Cond.arrayClass (newarray.typeOf .long) ∈ zx_T := (zx_i6 148 rfl rfl)
set_option maxRecDepth 20000 in
theorem f_Block_9 : zx_fld "SortedBlocks$Block" 9 4 0 false false := ⟨_, F_Block, 13, t_Block, rfl, by decide, cw_Block, ct_Block, cn_Block, rfl, rfl, rfl, (fun h => by first | rfl | cases h), (fun h => by first | rfl | cases h), rfl, Or.inl (zx_i2 2 rfl rfl)⟩
set_option maxRecDepth 20000 in
theorem f_Block_15 : zx_fld "SortedBlocks$Block" 15 4 1 false false := ⟨_, F_Block, 13, t_Block, rfl, by decide, cw_Block, ct_Block, cn_Block, rfl, rfl, rfl, (fun h => by first | rfl | cases h), (fun h => by first | rfl | cases h), rfl, Or.inl (zx_i2 7 rfl rfl)⟩
set_option maxRecDepth 20000 in
theorem f_Block_40 : zx_fld "SortedBlocks$Block" 40 4 9 false false := ⟨_, F_Block, 13, t_Block, rfl, by decide, cw_Block, ct_Block, cn_Block, rfl, rfl, rfl, (fun h => by first | rfl | cases h), (fun h => by first | rfl | cases h), rfl, Or.inl (zx_i2 41 rfl rfl)⟩
set_option maxRecDepth 20000 in
theorem f_Block_45 : zx_fld "SortedBlocks$Block" 45 4 10 true true := ⟨_, F_Block, 13, t_Block, rfl, by decide, cw_Block, ct_Block, cn_Block, rfl, rfl, rfl, (fun h => by first | rfl | cases h), (fun h => by first | rfl | cases h), rfl, Or.inl (zx_i2 46 rfl rfl)⟩
set_option maxRecDepth 20000 in
theorem kk_Picker_11 : zx_lk "SortedBlocks$Picker" 11 M_Trees_init 0 ∧ Cond.instanceMethod M_Trees_init.1 ∈ zx_T := ⟨⟨(zx_i1 151 rfl rfl), (zx_i1 9 rfl rfl), ⟨by decide +kernel, by decide +kernel, by decide +kernel⟩, Or.inr ⟨"SortedBlocks", (zx_n1 149 rfl rfl)⟩⟩, (zx_i1 150 rfl rfl)⟩
set_option maxRecDepth 20000 in
theorem kk_BlockMaker_20 : zx_lk "SortedBlocks$BlockMaker" 20 M_MoveList_init 0 ∧ Cond.instanceMethod M_MoveList_init.1 ∈ zx_T := ⟨⟨(zx_i1 82 rfl rfl), (zx_i1 5 rfl rfl), ⟨by decide +kernel, by decide +kernel, by decide +kernel⟩, Or.inr ⟨"SortedBlocks", (zx_n1 140 rfl rfl)⟩⟩, (zx_i1 81 rfl rfl)⟩
set_option maxRecDepth 20000 in
theorem kk_BlockMaker_27 : zx_lk "SortedBlocks$BlockMaker" 27 M_Picker_init 0 ∧ Cond.instanceMethod M_Picker_init.1 ∈ zx_T := ⟨⟨(zx_i1 145 rfl rfl), (zx_i1 8 rfl rfl), ⟨by decide +kernel, by decide +kernel, by decide +kernel⟩, Or.inr ⟨"SortedBlocks", (zx_n1 143 rfl rfl)⟩⟩, (zx_i1 144 rfl rfl)⟩
set_option maxRecDepth 20000 in
theorem kk_Main_11 : zx_lk "SortedBlocks" 11 M_Row_init 1 ∧ Cond.instanceMethod M_Row_init.1 ∈ zx_T := ⟨⟨(zx_i1 36 rfl rfl), (zx_i1 2 rfl rfl), ⟨by decide +kernel, by decide +kernel, by decide +kernel⟩, Or.inl (zx_i1 34 rfl rfl)⟩, (zx_i1 35 rfl rfl)⟩
set_option maxRecDepth 20000 in
theorem kk_Main_26 : zx_lk "SortedBlocks" 26 M_BitReader_init 1 ∧ Cond.instanceMethod M_BitReader_init.1 ∈ zx_T := ⟨⟨(zx_i1 56 rfl rfl), (zx_i1 3 rfl rfl), ⟨by decide +kernel, by decide +kernel, by decide +kernel⟩, Or.inl (zx_i1 54 rfl rfl)⟩, (zx_i1 55 rfl rfl)⟩
set_option maxRecDepth 20000 in
theorem kk_Main_35 : zx_lk "SortedBlocks" 35 M_BlockReader_init 1 ∧ Cond.instanceMethod M_BlockReader_init.1 ∈ zx_T := ⟨⟨(zx_i1 76 rfl rfl), (zx_i1 4 rfl rfl), ⟨by decide +kernel, by decide +kernel, by decide +kernel⟩, Or.inl (zx_i1 74 rfl rfl)⟩, (zx_i1 75 rfl rfl)⟩
set_option maxRecDepth 20000 in
theorem kk_BlockReader_11 : zx_lk "SortedBlocks$BlockReader" 11 M_MoveList_init 0 ∧ Cond.instanceMethod M_MoveList_init.1 ∈ zx_T := ⟨⟨(zx_i1 82 rfl rfl), (zx_i1 5 rfl rfl), ⟨by decide +kernel, by decide +kernel, by decide +kernel⟩, Or.inr ⟨"SortedBlocks", (zx_n1 80 rfl rfl)⟩⟩, (zx_i1 81 rfl rfl)⟩
set_option maxRecDepth 20000 in
theorem kk_BlockReader_39 : zx_lk "SortedBlocks$BlockReader" 39 M_Codes_init 1 ∧ Cond.instanceMethod M_Codes_init.1 ∈ zx_T := ⟨⟨(zx_i1 96 rfl rfl), (zx_i1 6 rfl rfl), ⟨by decide +kernel, by decide +kernel, by decide +kernel⟩, Or.inl (zx_i1 94 rfl rfl)⟩, (zx_i1 95 rfl rfl)⟩
set_option maxRecDepth 20000 in
theorem kk_Main_44 : zx_lk "SortedBlocks" 44 M_BlockMaker_init 0 ∧ Cond.instanceMethod M_BlockMaker_init.1 ∈ zx_T := ⟨⟨(zx_i1 137 rfl rfl), (zx_i1 7 rfl rfl), ⟨by decide +kernel, by decide +kernel, by decide +kernel⟩, Or.inr ⟨"SortedBlocks", (zx_n1 135 rfl rfl)⟩⟩, (zx_i1 136 rfl rfl)⟩
set_option maxRecDepth 20000 in
theorem kk_Main_51 : zx_lk "SortedBlocks" 51 M_BlockWriter_init 1 ∧ Cond.instanceMethod M_BlockWriter_init.1 ∈ zx_T := ⟨⟨(zx_i1 199 rfl rfl), (zx_i1 10 rfl rfl), ⟨by decide +kernel, by decide +kernel, by decide +kernel⟩, Or.inl (zx_i1 197 rfl rfl)⟩, (zx_i1 198 rfl rfl)⟩
set_option maxRecDepth 20000 in
theorem kk_BlockWriter_17 : zx_lk "SortedBlocks$BlockWriter" 17 M_MoveList_init 0 ∧ Cond.instanceMethod M_MoveList_init.1 ∈ zx_T := ⟨⟨(zx_i1 82 rfl rfl), (zx_i1 5 rfl rfl), ⟨by decide +kernel, by decide +kernel, by decide +kernel⟩, Or.inr ⟨"SortedBlocks", (zx_n1 202 rfl rfl)⟩⟩, (zx_i1 81 rfl rfl)⟩
set_option maxRecDepth 20000 in
theorem kk_BlockWriter_30 : zx_lk "SortedBlocks$BlockWriter" 30 M_BitWriter_init 1 ∧ Cond.instanceMethod M_BitWriter_init.1 ∈ zx_T := ⟨⟨(zx_i1 208 rfl rfl), (zx_i1 11 rfl rfl), ⟨by decide +kernel, by decide +kernel, by decide +kernel⟩, Or.inl (zx_i1 206 rfl rfl)⟩, (zx_i1 207 rfl rfl)⟩
set_option maxRecDepth 20000 in
theorem kk_BlockWriter_37 : zx_lk "SortedBlocks$BlockWriter" 37 M_Codes_init 1 ∧ Cond.instanceMethod M_Codes_init.1 ∈ zx_T := ⟨⟨(zx_i1 96 rfl rfl), (zx_i1 6 rfl rfl), ⟨by decide +kernel, by decide +kernel, by decide +kernel⟩, Or.inl (zx_i1 220 rfl rfl)⟩, (zx_i1 95 rfl rfl)⟩
set_option maxRecDepth 20000 in
theorem kk_Main_58 : zx_lk "SortedBlocks" 58 M_Block_init 0 ∧ Cond.instanceMethod M_Block_init.1 ∈ zx_T := ⟨⟨(zx_i1 238 rfl rfl), (zx_i1 12 rfl rfl), ⟨by decide +kernel, by decide +kernel, by decide +kernel⟩, Or.inr ⟨"SortedBlocks", (zx_n1 236 rfl rfl)⟩⟩, (zx_i1 237 rfl rfl)⟩
set_option maxRecDepth 20000 in
theorem w_Law_46 : Cond.constantLong "SortedBlocksLaw" 46 4294967295 ∈ zx_T := (zx_i6 147 rfl rfl)
set_option maxRecDepth 20000 in
theorem cl_Law_8 : Cond.classLink "SortedBlocksLaw" 8 "SortedBlocks" ∈ zx_T := (zx_i1 24 rfl rfl)
set_option maxRecDepth 20000 in
theorem cl_Law_43 : Cond.classLink "SortedBlocksLaw" 43 "SortedBlocksModel" ∈ zx_T := (zx_i4 234 rfl rfl)
set_option maxRecDepth 20000 in
theorem kk_Law_42 : zx_lk "SortedBlocksLaw" 42 M_Main_init 0 ∧ Cond.instanceMethod M_Main_init.1 ∈ zx_T := ⟨⟨(zx_i1 28 rfl rfl), (zx_i1 1 rfl rfl), ⟨by decide +kernel, by decide +kernel, by decide +kernel⟩, Or.inl (zx_i1 26 rfl rfl)⟩, (zx_i1 27 rfl rfl)⟩
set_option maxRecDepth 20000 in
theorem kk_Law_45 : zx_lk "SortedBlocksLaw" 45 M_Mod_init 0 ∧ Cond.instanceMethod M_Mod_init.1 ∈ zx_T := ⟨⟨(zx_i4 238 rfl rfl), (zx_i1 13 rfl rfl), ⟨by decide +kernel, by decide +kernel, by decide +kernel⟩, Or.inl (zx_i4 236 rfl rfl)⟩, (zx_i4 237 rfl rfl)⟩
