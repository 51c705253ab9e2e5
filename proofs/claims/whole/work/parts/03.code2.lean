theorem d_Mod_block_6 : decode M_Mod_block.2.1 6 = .ok (.getfield 215, 3) := by decide +kernel
theorem d_Mod_block_9 : decode M_Mod_block.2.1 9 = .ok (.ifCond .ne 5, 3) := by decide +kernel
theorem d_Mod_block_12 : decode M_Mod_block.2.1 12 = .ok (.iconst (-1), 1) := by decide +kernel
theorem d_Mod_block_13 : decode M_Mod_block.2.1 13 = .ok (.ireturn, 1) := by decide +kernel
theorem d_Mod_block_14 : decode M_Mod_block.2.1 14 = .ok (.iload_n 1, 1) := by decide +kernel
theorem d_Mod_block_15 : decode M_Mod_block.2.1 15 = .ok (.ifCond .ne 10, 3) := by decide +kernel
theorem d_Mod_block_18 : decode M_Mod_block.2.1 18 = .ok (.aload_n 0, 1) := by decide +kernel
theorem d_Mod_block_19 : decode M_Mod_block.2.1 19 = .ok (.getfield 194, 3) := by decide +kernel
theorem d_Mod_block_22 : decode M_Mod_block.2.1 22 = .ok (.goto 52, 3) := by decide +kernel
theorem d_Mod_block_25 : decode M_Mod_block.2.1 25 = .ok (.iload_n 1, 1) := by decide +kernel
theorem d_Mod_block_26 : decode M_Mod_block.2.1 26 = .ok (.iconst 1, 1) := by decide +kernel
theorem d_Mod_block_27 : decode M_Mod_block.2.1 27 = .ok (.if_icmp .ne 10, 3) := by decide +kernel
theorem d_Mod_block_30 : decode M_Mod_block.2.1 30 = .ok (.aload_n 0, 1) := by decide +kernel
theorem d_Mod_block_31 : decode M_Mod_block.2.1 31 = .ok (.getfield 197, 3) := by decide +kernel
theorem d_Mod_block_34 : decode M_Mod_block.2.1 34 = .ok (.goto 40, 3) := by decide +kernel
theorem d_Mod_block_37 : decode M_Mod_block.2.1 37 = .ok (.iload_n 1, 1) := by decide +kernel
theorem d_Mod_block_38 : decode M_Mod_block.2.1 38 = .ok (.iconst 2, 1) := by decide +kernel
theorem d_Mod_block_39 : decode M_Mod_block.2.1 39 = .ok (.if_icmp .ne 10, 3) := by decide +kernel
theorem d_Mod_block_42 : decode M_Mod_block.2.1 42 = .ok (.aload_n 0, 1) := by decide +kernel
theorem d_Mod_block_43 : decode M_Mod_block.2.1 43 = .ok (.getfield 200, 3) := by decide +kernel
theorem d_Mod_block_46 : decode M_Mod_block.2.1 46 = .ok (.goto 28, 3) := by decide +kernel
theorem d_Mod_block_49 : decode M_Mod_block.2.1 49 = .ok (.iload_n 1, 1) := by decide +kernel
theorem d_Mod_block_50 : decode M_Mod_block.2.1 50 = .ok (.iconst 3, 1) := by decide +kernel
theorem d_Mod_block_51 : decode M_Mod_block.2.1 51 = .ok (.if_icmp .ne 10, 3) := by decide +kernel
theorem d_Mod_block_54 : decode M_Mod_block.2.1 54 = .ok (.aload_n 0, 1) := by decide +kernel
theorem d_Mod_block_55 : decode M_Mod_block.2.1 55 = .ok (.getfield 203, 3) := by decide +kernel
theorem d_Mod_block_58 : decode M_Mod_block.2.1 58 = .ok (.goto 16, 3) := by decide +kernel
theorem d_Mod_block_61 : decode M_Mod_block.2.1 61 = .ok (.iload_n 1, 1) := by decide +kernel
theorem d_Mod_block_62 : decode M_Mod_block.2.1 62 = .ok (.iconst 4, 1) := by decide +kernel
theorem d_Mod_block_63 : decode M_Mod_block.2.1 63 = .ok (.if_icmp .ne 10, 3) := by decide +kernel
theorem d_Mod_block_66 : decode M_Mod_block.2.1 66 = .ok (.aload_n 0, 1) := by decide +kernel
theorem d_Mod_block_67 : decode M_Mod_block.2.1 67 = .ok (.getfield 212, 3) := by decide +kernel
theorem d_Mod_block_70 : decode M_Mod_block.2.1 70 = .ok (.goto 4, 3) := by decide +kernel
theorem d_Mod_block_73 : decode M_Mod_block.2.1 73 = .ok (.iconst (-1), 1) := by decide +kernel
theorem d_Mod_block_74 : decode M_Mod_block.2.1 74 = .ok (.ireturn, 1) := by decide +kernel
theorem d_Mod_last_0 : decode M_Mod_last.2.1 0 = .ok (.aload_n 0, 1) := by decide +kernel
theorem d_Mod_last_1 : decode M_Mod_last.2.1 1 = .ok (.iconst 0, 1) := by decide +kernel
theorem d_Mod_last_2 : decode M_Mod_last.2.1 2 = .ok (.putfield 75, 3) := by decide +kernel
theorem d_Mod_last_5 : decode M_Mod_last.2.1 5 = .ok (.aload_n 0, 1) := by decide +kernel
theorem d_Mod_last_6 : decode M_Mod_last.2.1 6 = .ok (.getfield 215, 3) := by decide +kernel
theorem d_Mod_last_9 : decode M_Mod_last.2.1 9 = .ok (.ifCond .eq 15, 3) := by decide +kernel
theorem d_Mod_last_12 : decode M_Mod_last.2.1 12 = .ok (.iload_n 1, 1) := by decide +kernel
theorem d_Mod_last_13 : decode M_Mod_last.2.1 13 = .ok (.ifCond .lt 11, 3) := by decide +kernel
theorem d_Mod_last_16 : decode M_Mod_last.2.1 16 = .ok (.iload_n 1, 1) := by decide +kernel
theorem d_Mod_last_17 : decode M_Mod_last.2.1 17 = .ok (.aload_n 0, 1) := by decide +kernel
theorem d_Mod_last_18 : decode M_Mod_last.2.1 18 = .ok (.getfield 197, 3) := by decide +kernel
theorem d_Mod_last_21 : decode M_Mod_last.2.1 21 = .ok (.if_icmp .lt 7, 3) := by decide +kernel
theorem d_Mod_last_24 : decode M_Mod_last.2.1 24 = .ok (.iconst (-1), 1) := by decide +kernel
theorem d_Mod_last_25 : decode M_Mod_last.2.1 25 = .ok (.goto 9, 3) := by decide +kernel
theorem d_Mod_last_28 : decode M_Mod_last.2.1 28 = .ok (.aload_n 0, 1) := by decide +kernel
theorem d_Mod_last_29 : decode M_Mod_last.2.1 29 = .ok (.getfield 63, 3) := by decide +kernel
theorem d_Mod_last_32 : decode M_Mod_last.2.1 32 = .ok (.iload_n 1, 1) := by decide +kernel
theorem d_Mod_last_33 : decode M_Mod_last.2.1 33 = .ok (.iaload, 1) := by decide +kernel
theorem d_Mod_last_34 : decode M_Mod_last.2.1 34 = .ok (.ireturn, 1) := by decide +kernel
theorem d_Mod_symbol_0 : decode M_Mod_symbol.2.1 0 = .ok (.aload_n 0, 1) := by decide +kernel
theorem d_Mod_symbol_1 : decode M_Mod_symbol.2.1 1 = .ok (.iconst 0, 1) := by decide +kernel
theorem d_Mod_symbol_2 : decode M_Mod_symbol.2.1 2 = .ok (.putfield 75, 3) := by decide +kernel
theorem d_Mod_symbol_5 : decode M_Mod_symbol.2.1 5 = .ok (.aload_n 0, 1) := by decide +kernel
theorem d_Mod_symbol_6 : decode M_Mod_symbol.2.1 6 = .ok (.getfield 215, 3) := by decide +kernel
theorem d_Mod_symbol_9 : decode M_Mod_symbol.2.1 9 = .ok (.ifCond .eq 15, 3) := by decide +kernel
theorem d_Mod_symbol_12 : decode M_Mod_symbol.2.1 12 = .ok (.iload_n 1, 1) := by decide +kernel
theorem d_Mod_symbol_13 : decode M_Mod_symbol.2.1 13 = .ok (.ifCond .lt 11, 3) := by decide +kernel
theorem d_Mod_symbol_16 : decode M_Mod_symbol.2.1 16 = .ok (.iload_n 1, 1) := by decide +kernel
theorem d_Mod_symbol_17 : decode M_Mod_symbol.2.1 17 = .ok (.aload_n 0, 1) := by decide +kernel
theorem d_Mod_symbol_18 : decode M_Mod_symbol.2.1 18 = .ok (.getfield 200, 3) := by decide +kernel
theorem d_Mod_symbol_21 : decode M_Mod_symbol.2.1 21 = .ok (.if_icmp .lt 7, 3) := by decide +kernel
theorem d_Mod_symbol_24 : decode M_Mod_symbol.2.1 24 = .ok (.iconst (-1), 1) := by decide +kernel
theorem d_Mod_symbol_25 : decode M_Mod_symbol.2.1 25 = .ok (.goto 9, 3) := by decide +kernel
theorem d_Mod_symbol_28 : decode M_Mod_symbol.2.1 28 = .ok (.aload_n 0, 1) := by decide +kernel
theorem d_Mod_symbol_29 : decode M_Mod_symbol.2.1 29 = .ok (.getfield 66, 3) := by decide +kernel
theorem d_Mod_symbol_32 : decode M_Mod_symbol.2.1 32 = .ok (.iload_n 1, 1) := by decide +kernel
theorem d_Mod_symbol_33 : decode M_Mod_symbol.2.1 33 = .ok (.iaload, 1) := by decide +kernel
theorem d_Mod_symbol_34 : decode M_Mod_symbol.2.1 34 = .ok (.ireturn, 1) := by decide +kernel
theorem d_Mod_length_0 : decode M_Mod_length.2.1 0 = .ok (.aload_n 0, 1) := by decide +kernel
theorem d_Mod_length_1 : decode M_Mod_length.2.1 1 = .ok (.iconst 0, 1) := by decide +kernel
theorem d_Mod_length_2 : decode M_Mod_length.2.1 2 = .ok (.putfield 75, 3) := by decide +kernel
theorem d_Mod_length_5 : decode M_Mod_length.2.1 5 = .ok (.aload_n 0, 1) := by decide +kernel
theorem d_Mod_length_6 : decode M_Mod_length.2.1 6 = .ok (.getfield 215, 3) := by decide +kernel
theorem d_Mod_length_9 : decode M_Mod_length.2.1 9 = .ok (.ifCond .eq 29, 3) := by decide +kernel
theorem d_Mod_length_12 : decode M_Mod_length.2.1 12 = .ok (.iload_n 1, 1) := by decide +kernel
theorem d_Mod_length_13 : decode M_Mod_length.2.1 13 = .ok (.ifCond .lt 25, 3) := by decide +kernel
theorem d_Mod_length_16 : decode M_Mod_length.2.1 16 = .ok (.iload_n 1, 1) := by decide +kernel
theorem d_Mod_length_17 : decode M_Mod_length.2.1 17 = .ok (.aload_n 0, 1) := by decide +kernel
theorem d_Mod_length_18 : decode M_Mod_length.2.1 18 = .ok (.getfield 203, 3) := by decide +kernel
theorem d_Mod_length_21 : decode M_Mod_length.2.1 21 = .ok (.if_icmp .ge 17, 3) := by decide +kernel
theorem d_Mod_length_24 : decode M_Mod_length.2.1 24 = .ok (.iload_n 2, 1) := by decide +kernel
theorem d_Mod_length_25 : decode M_Mod_length.2.1 25 = .ok (.ifCond .lt 13, 3) := by decide +kernel
theorem d_Mod_length_28 : decode M_Mod_length.2.1 28 = .ok (.iload_n 2, 1) := by decide +kernel
theorem d_Mod_length_29 : decode M_Mod_length.2.1 29 = .ok (.aload_n 0, 1) := by decide +kernel
theorem d_Mod_length_30 : decode M_Mod_length.2.1 30 = .ok (.getfield 209, 3) := by decide +kernel
theorem d_Mod_length_33 : decode M_Mod_length.2.1 33 = .ok (.iconst 2, 1) := by decide +kernel
theorem d_Mod_length_34 : decode M_Mod_length.2.1 34 = .ok (.iadd, 1) := by decide +kernel
theorem d_Mod_length_35 : decode M_Mod_length.2.1 35 = .ok (.if_icmp .lt 7, 3) := by decide +kernel
theorem d_Mod_length_38 : decode M_Mod_length.2.1 38 = .ok (.iconst (-1), 1) := by decide +kernel
theorem d_Mod_length_39 : decode M_Mod_length.2.1 39 = .ok (.goto 15, 3) := by decide +kernel
theorem d_Mod_length_42 : decode M_Mod_length.2.1 42 = .ok (.aload_n 0, 1) := by decide +kernel
theorem d_Mod_length_43 : decode M_Mod_length.2.1 43 = .ok (.getfield 69, 3) := by decide +kernel
theorem d_Mod_length_46 : decode M_Mod_length.2.1 46 = .ok (.sipush 260, 3) := by decide +kernel
theorem d_Mod_length_49 : decode M_Mod_length.2.1 49 = .ok (.iload_n 1, 1) := by decide +kernel
theorem d_Mod_length_50 : decode M_Mod_length.2.1 50 = .ok (.imul, 1) := by decide +kernel
theorem d_Mod_length_51 : decode M_Mod_length.2.1 51 = .ok (.iload_n 2, 1) := by decide +kernel
theorem d_Mod_length_52 : decode M_Mod_length.2.1 52 = .ok (.iadd, 1) := by decide +kernel
theorem d_Mod_length_53 : decode M_Mod_length.2.1 53 = .ok (.iaload, 1) := by decide +kernel
theorem d_Mod_length_54 : decode M_Mod_length.2.1 54 = .ok (.ireturn, 1) := by decide +kernel
theorem d_Mod_table_0 : decode M_Mod_table.2.1 0 = .ok (.aload_n 0, 1) := by decide +kernel
theorem d_Mod_table_1 : decode M_Mod_table.2.1 1 = .ok (.iconst 0, 1) := by decide +kernel
theorem d_Mod_table_2 : decode M_Mod_table.2.1 2 = .ok (.putfield 75, 3) := by decide +kernel
theorem d_Mod_table_5 : decode M_Mod_table.2.1 5 = .ok (.aload_n 0, 1) := by decide +kernel
theorem d_Mod_table_6 : decode M_Mod_table.2.1 6 = .ok (.getfield 215, 3) := by decide +kernel
theorem d_Mod_table_9 : decode M_Mod_table.2.1 9 = .ok (.ifCond .eq 15, 3) := by decide +kernel
theorem d_Mod_table_12 : decode M_Mod_table.2.1 12 = .ok (.iload_n 1, 1) := by decide +kernel
theorem d_Mod_table_13 : decode M_Mod_table.2.1 13 = .ok (.ifCond .lt 11, 3) := by decide +kernel
theorem d_Mod_table_16 : decode M_Mod_table.2.1 16 = .ok (.iload_n 1, 1) := by decide +kernel
theorem d_Mod_table_17 : decode M_Mod_table.2.1 17 = .ok (.aload_n 0, 1) := by decide +kernel
theorem d_Mod_table_18 : decode M_Mod_table.2.1 18 = .ok (.getfield 206, 3) := by decide +kernel
theorem d_Mod_table_21 : decode M_Mod_table.2.1 21 = .ok (.if_icmp .lt 7, 3) := by decide +kernel
theorem d_Mod_table_24 : decode M_Mod_table.2.1 24 = .ok (.iconst (-1), 1) := by decide +kernel
theorem d_Mod_table_25 : decode M_Mod_table.2.1 25 = .ok (.goto 9, 3) := by decide +kernel
theorem d_Mod_table_28 : decode M_Mod_table.2.1 28 = .ok (.aload_n 0, 1) := by decide +kernel
theorem d_Mod_table_29 : decode M_Mod_table.2.1 29 = .ok (.getfield 72, 3) := by decide +kernel
theorem d_Mod_table_32 : decode M_Mod_table.2.1 32 = .ok (.iload_n 1, 1) := by decide +kernel
theorem d_Mod_table_33 : decode M_Mod_table.2.1 33 = .ok (.iaload, 1) := by decide +kernel
theorem d_Mod_table_34 : decode M_Mod_table.2.1 34 = .ok (.ireturn, 1) := by decide +kernel
theorem d_BitReader_init_0 : decode M_BitReader_init.2.1 0 = .ok (.aload_n 0, 1) := by decide +kernel
theorem d_BitReader_init_1 : decode M_BitReader_init.2.1 1 = .ok (.invokespecial 3, 3) := by decide +kernel
theorem d_BitReader_init_4 : decode M_BitReader_init.2.1 4 = .ok (.aload_n 0, 1) := by decide +kernel
theorem d_BitReader_init_5 : decode M_BitReader_init.2.1 5 = .ok (.iconst 0, 1) := by decide +kernel
theorem d_BitReader_init_6 : decode M_BitReader_init.2.1 6 = .ok (.putfield 9, 3) := by decide +kernel
theorem d_BitReader_init_9 : decode M_BitReader_init.2.1 9 = .ok (.aload_n 0, 1) := by decide +kernel
theorem d_BitReader_init_10 : decode M_BitReader_init.2.1 10 = .ok (.iconst 0, 1) := by decide +kernel
theorem d_BitReader_init_11 : decode M_BitReader_init.2.1 11 = .ok (.putfield 15, 3) := by decide +kernel
theorem d_BitReader_init_14 : decode M_BitReader_init.2.1 14 = .ok (.aload_n 0, 1) := by decide +kernel
theorem d_BitReader_init_15 : decode M_BitReader_init.2.1 15 = .ok (.aload_n 1, 1) := by decide +kernel
theorem d_BitReader_init_16 : decode M_BitReader_init.2.1 16 = .ok (.putfield 18, 3) := by decide +kernel
theorem d_BitReader_init_19 : decode M_BitReader_init.2.1 19 = .ok (.return_, 1) := by decide +kernel
theorem d_BitReader_isAtEnd_0 : decode M_BitReader_isAtEnd.2.1 0 = .ok (.aload_n 0, 1) := by decide +kernel
theorem d_BitReader_isAtEnd_1 : decode M_BitReader_isAtEnd.2.1 1 = .ok (.getfield 9, 3) := by decide +kernel
theorem d_BitReader_isAtEnd_4 : decode M_BitReader_isAtEnd.2.1 4 = .ok (.bipush 8, 2) := by decide +kernel
theorem d_BitReader_isAtEnd_6 : decode M_BitReader_isAtEnd.2.1 6 = .ok (.aload_n 0, 1) := by decide +kernel
theorem d_BitReader_isAtEnd_7 : decode M_BitReader_isAtEnd.2.1 7 = .ok (.getfield 18, 3) := by decide +kernel
theorem d_BitReader_isAtEnd_10 : decode M_BitReader_isAtEnd.2.1 10 = .ok (.getfield 22, 3) := by decide +kernel
theorem d_BitReader_isAtEnd_13 : decode M_BitReader_isAtEnd.2.1 13 = .ok (.imul, 1) := by decide +kernel
theorem d_BitReader_isAtEnd_14 : decode M_BitReader_isAtEnd.2.1 14 = .ok (.if_icmp .lt 7, 3) := by decide +kernel
theorem d_BitReader_isAtEnd_17 : decode M_BitReader_isAtEnd.2.1 17 = .ok (.iconst 1, 1) := by decide +kernel
theorem d_BitReader_isAtEnd_18 : decode M_BitReader_isAtEnd.2.1 18 = .ok (.goto 4, 3) := by decide +kernel
theorem d_BitReader_isAtEnd_21 : decode M_BitReader_isAtEnd.2.1 21 = .ok (.iconst 0, 1) := by decide +kernel
theorem d_BitReader_isAtEnd_22 : decode M_BitReader_isAtEnd.2.1 22 = .ok (.ireturn, 1) := by decide +kernel
theorem d_BitReader_goTo_0 : decode M_BitReader_goTo.2.1 0 = .ok (.aload_n 0, 1) := by decide +kernel
theorem d_BitReader_goTo_1 : decode M_BitReader_goTo.2.1 1 = .ok (.iload_n 1, 1) := by decide +kernel
theorem d_BitReader_goTo_2 : decode M_BitReader_goTo.2.1 2 = .ok (.putfield 9, 3) := by decide +kernel
theorem d_BitReader_goTo_5 : decode M_BitReader_goTo.2.1 5 = .ok (.return_, 1) := by decide +kernel
theorem d_BitReader_skipToByte_0 : decode M_BitReader_skipToByte.2.1 0 = .ok (.aload_n 0, 1) := by decide +kernel
theorem d_BitReader_skipToByte_1 : decode M_BitReader_skipToByte.2.1 1 = .ok (.aload_n 0, 1) := by decide +kernel
theorem d_BitReader_skipToByte_2 : decode M_BitReader_skipToByte.2.1 2 = .ok (.getfield 9, 3) := by decide +kernel
theorem d_BitReader_skipToByte_5 : decode M_BitReader_skipToByte.2.1 5 = .ok (.bipush 7, 2) := by decide +kernel
theorem d_BitReader_skipToByte_7 : decode M_BitReader_skipToByte.2.1 7 = .ok (.iadd, 1) := by decide +kernel
theorem d_BitReader_skipToByte_8 : decode M_BitReader_skipToByte.2.1 8 = .ok (.bipush 8, 2) := by decide +kernel
theorem d_BitReader_skipToByte_10 : decode M_BitReader_skipToByte.2.1 10 = .ok (.idiv, 1) := by decide +kernel
theorem d_BitReader_skipToByte_11 : decode M_BitReader_skipToByte.2.1 11 = .ok (.bipush 8, 2) := by decide +kernel
theorem d_BitReader_skipToByte_13 : decode M_BitReader_skipToByte.2.1 13 = .ok (.imul, 1) := by decide +kernel
theorem d_BitReader_skipToByte_14 : decode M_BitReader_skipToByte.2.1 14 = .ok (.putfield 9, 3) := by decide +kernel
theorem d_BitReader_skipToByte_17 : decode M_BitReader_skipToByte.2.1 17 = .ok (.return_, 1) := by decide +kernel
theorem d_BitReader_beginNumber_0 : decode M_BitReader_beginNumber.2.1 0 = .ok (.aload_n 0, 1) := by decide +kernel
theorem d_BitReader_beginNumber_1 : decode M_BitReader_beginNumber.2.1 1 = .ok (.aload_n 0, 1) := by decide +kernel
theorem d_BitReader_beginNumber_2 : decode M_BitReader_beginNumber.2.1 2 = .ok (.getfield 9, 3) := by decide +kernel
theorem d_BitReader_beginNumber_5 : decode M_BitReader_beginNumber.2.1 5 = .ok (.putfield 15, 3) := by decide +kernel
theorem d_BitReader_beginNumber_8 : decode M_BitReader_beginNumber.2.1 8 = .ok (.return_, 1) := by decide +kernel
theorem d_BitReader_takeBit_0 : decode M_BitReader_takeBit.2.1 0 = .ok (.aload_n 0, 1) := by decide +kernel
theorem d_BitReader_takeBit_1 : decode M_BitReader_takeBit.2.1 1 = .ok (.getfield 9, 3) := by decide +kernel
theorem d_BitReader_takeBit_4 : decode M_BitReader_takeBit.2.1 4 = .ok (.bipush 8, 2) := by decide +kernel
theorem d_BitReader_takeBit_6 : decode M_BitReader_takeBit.2.1 6 = .ok (.idiv, 1) := by decide +kernel
theorem d_BitReader_takeBit_7 : decode M_BitReader_takeBit.2.1 7 = .ok (.istore_n 1, 1) := by decide +kernel
theorem d_BitReader_takeBit_8 : decode M_BitReader_takeBit.2.1 8 = .ok (.iload_n 1, 1) := by decide +kernel
theorem d_BitReader_takeBit_9 : decode M_BitReader_takeBit.2.1 9 = .ok (.ifCond .lt 14, 3) := by decide +kernel
theorem d_BitReader_takeBit_12 : decode M_BitReader_takeBit.2.1 12 = .ok (.iload_n 1, 1) := by decide +kernel
theorem d_BitReader_takeBit_13 : decode M_BitReader_takeBit.2.1 13 = .ok (.aload_n 0, 1) := by decide +kernel
theorem d_BitReader_takeBit_14 : decode M_BitReader_takeBit.2.1 14 = .ok (.getfield 18, 3) := by decide +kernel
theorem d_BitReader_takeBit_17 : decode M_BitReader_takeBit.2.1 17 = .ok (.getfield 22, 3) := by decide +kernel
theorem d_BitReader_takeBit_20 : decode M_BitReader_takeBit.2.1 20 = .ok (.if_icmp .lt 6, 3) := by decide +kernel
theorem d_BitReader_takeBit_23 : decode M_BitReader_takeBit.2.1 23 = .ok (.bipush (-2), 2) := by decide +kernel
theorem d_BitReader_takeBit_25 : decode M_BitReader_takeBit.2.1 25 = .ok (.ireturn, 1) := by decide +kernel
theorem d_BitReader_takeBit_26 : decode M_BitReader_takeBit.2.1 26 = .ok (.aload_n 0, 1) := by decide +kernel
theorem d_BitReader_takeBit_27 : decode M_BitReader_takeBit.2.1 27 = .ok (.getfield 18, 3) := by decide +kernel
theorem d_BitReader_takeBit_30 : decode M_BitReader_takeBit.2.1 30 = .ok (.getfield 27, 3) := by decide +kernel
theorem d_BitReader_takeBit_33 : decode M_BitReader_takeBit.2.1 33 = .ok (.iload_n 1, 1) := by decide +kernel
theorem d_BitReader_takeBit_34 : decode M_BitReader_takeBit.2.1 34 = .ok (.iaload, 1) := by decide +kernel
theorem d_BitReader_takeBit_35 : decode M_BitReader_takeBit.2.1 35 = .ok (.bipush 7, 2) := by decide +kernel
theorem d_BitReader_takeBit_37 : decode M_BitReader_takeBit.2.1 37 = .ok (.aload_n 0, 1) := by decide +kernel
theorem d_BitReader_takeBit_38 : decode M_BitReader_takeBit.2.1 38 = .ok (.getfield 9, 3) := by decide +kernel
theorem d_BitReader_takeBit_41 : decode M_BitReader_takeBit.2.1 41 = .ok (.bipush 8, 2) := by decide +kernel
theorem d_BitReader_takeBit_43 : decode M_BitReader_takeBit.2.1 43 = .ok (.irem, 1) := by decide +kernel
theorem d_BitReader_takeBit_44 : decode M_BitReader_takeBit.2.1 44 = .ok (.isub, 1) := by decide +kernel
theorem d_BitReader_takeBit_45 : decode M_BitReader_takeBit.2.1 45 = .ok (.ishr, 1) := by decide +kernel
theorem d_BitReader_takeBit_46 : decode M_BitReader_takeBit.2.1 46 = .ok (.iconst 1, 1) := by decide +kernel
theorem d_BitReader_takeBit_47 : decode M_BitReader_takeBit.2.1 47 = .ok (.iand, 1) := by decide +kernel
theorem d_BitReader_takeBit_48 : decode M_BitReader_takeBit.2.1 48 = .ok (.istore_n 2, 1) := by decide +kernel
theorem d_BitReader_takeBit_49 : decode M_BitReader_takeBit.2.1 49 = .ok (.aload_n 0, 1) := by decide +kernel
theorem d_BitReader_takeBit_50 : decode M_BitReader_takeBit.2.1 50 = .ok (.dup, 1) := by decide +kernel
theorem d_BitReader_takeBit_51 : decode M_BitReader_takeBit.2.1 51 = .ok (.getfield 9, 3) := by decide +kernel
theorem d_BitReader_takeBit_54 : decode M_BitReader_takeBit.2.1 54 = .ok (.iconst 1, 1) := by decide +kernel
theorem d_BitReader_takeBit_55 : decode M_BitReader_takeBit.2.1 55 = .ok (.iadd, 1) := by decide +kernel
theorem d_BitReader_takeBit_56 : decode M_BitReader_takeBit.2.1 56 = .ok (.putfield 9, 3) := by decide +kernel
theorem d_BitReader_takeBit_59 : decode M_BitReader_takeBit.2.1 59 = .ok (.iload_n 2, 1) := by decide +kernel
theorem d_BitReader_takeBit_60 : decode M_BitReader_takeBit.2.1 60 = .ok (.ireturn, 1) := by decide +kernel
theorem d_BitReader_takeNumber_0 : decode M_BitReader_takeNumber.2.1 0 = .ok (.aload_n 0, 1) := by decide +kernel
theorem d_BitReader_takeNumber_1 : decode M_BitReader_takeNumber.2.1 1 = .ok (.invokevirtual 31, 3) := by decide +kernel
theorem d_BitReader_takeNumber_4 : decode M_BitReader_takeNumber.2.1 4 = .ok (.iconst 0, 1) := by decide +kernel
theorem d_BitReader_takeNumber_5 : decode M_BitReader_takeNumber.2.1 5 = .ok (.istore_n 2, 1) := by decide +kernel
theorem d_BitReader_takeNumber_6 : decode M_BitReader_takeNumber.2.1 6 = .ok (.iconst 0, 1) := by decide +kernel
theorem d_BitReader_takeNumber_7 : decode M_BitReader_takeNumber.2.1 7 = .ok (.istore_n 3, 1) := by decide +kernel
theorem d_BitReader_takeNumber_8 : decode M_BitReader_takeNumber.2.1 8 = .ok (.iload_n 3, 1) := by decide +kernel
theorem d_BitReader_takeNumber_9 : decode M_BitReader_takeNumber.2.1 9 = .ok (.iload_n 1, 1) := by decide +kernel
theorem d_BitReader_takeNumber_10 : decode M_BitReader_takeNumber.2.1 10 = .ok (.if_icmp .ge 30, 3) := by decide +kernel
theorem d_BitReader_takeNumber_13 : decode M_BitReader_takeNumber.2.1 13 = .ok (.aload_n 0, 1) := by decide +kernel
theorem d_BitReader_takeNumber_14 : decode M_BitReader_takeNumber.2.1 14 = .ok (.invokevirtual 34, 3) := by decide +kernel
theorem d_BitReader_takeNumber_17 : decode M_BitReader_takeNumber.2.1 17 = .ok (.istore 4, 2) := by decide +kernel
theorem d_BitReader_takeNumber_19 : decode M_BitReader_takeNumber.2.1 19 = .ok (.iload 4, 2) := by decide +kernel
theorem d_BitReader_takeNumber_21 : decode M_BitReader_takeNumber.2.1 21 = .ok (.ifCond .ge 6, 3) := by decide +kernel
theorem d_BitReader_takeNumber_24 : decode M_BitReader_takeNumber.2.1 24 = .ok (.iload 4, 2) := by decide +kernel
theorem d_BitReader_takeNumber_26 : decode M_BitReader_takeNumber.2.1 26 = .ok (.ireturn, 1) := by decide +kernel
theorem d_BitReader_takeNumber_27 : decode M_BitReader_takeNumber.2.1 27 = .ok (.iload_n 2, 1) := by decide +kernel
theorem d_BitReader_takeNumber_28 : decode M_BitReader_takeNumber.2.1 28 = .ok (.iconst 1, 1) := by decide +kernel
theorem d_BitReader_takeNumber_29 : decode M_BitReader_takeNumber.2.1 29 = .ok (.ishl, 1) := by decide +kernel
theorem d_BitReader_takeNumber_30 : decode M_BitReader_takeNumber.2.1 30 = .ok (.iload 4, 2) := by decide +kernel
theorem d_BitReader_takeNumber_32 : decode M_BitReader_takeNumber.2.1 32 = .ok (.ior, 1) := by decide +kernel
theorem d_BitReader_takeNumber_33 : decode M_BitReader_takeNumber.2.1 33 = .ok (.istore_n 2, 1) := by decide +kernel
theorem d_BitReader_takeNumber_34 : decode M_BitReader_takeNumber.2.1 34 = .ok (.iinc 3 1, 3) := by decide +kernel
theorem d_BitReader_takeNumber_37 : decode M_BitReader_takeNumber.2.1 37 = .ok (.goto (-29), 3) := by decide +kernel
theorem d_BitReader_takeNumber_40 : decode M_BitReader_takeNumber.2.1 40 = .ok (.iload_n 2, 1) := by decide +kernel
theorem d_BitReader_takeNumber_41 : decode M_BitReader_takeNumber.2.1 41 = .ok (.ireturn, 1) := by decide +kernel
theorem d_BitReader_findMark_0 : decode M_BitReader_findMark.2.1 0 = .ok (.aload_n 0, 1) := by decide +kernel
theorem d_BitReader_findMark_1 : decode M_BitReader_findMark.2.1 1 = .ok (.iload_n 1, 1) := by decide +kernel
theorem d_BitReader_findMark_2 : decode M_BitReader_findMark.2.1 2 = .ok (.invokevirtual 38, 3) := by decide +kernel
theorem d_BitReader_findMark_5 : decode M_BitReader_findMark.2.1 5 = .ok (.iconst 0, 1) := by decide +kernel
theorem d_BitReader_findMark_6 : decode M_BitReader_findMark.2.1 6 = .ok (.istore_n 2, 1) := by decide +kernel
theorem d_BitReader_findMark_7 : decode M_BitReader_findMark.2.1 7 = .ok (.iconst 1, 1) := by decide +kernel
theorem d_BitReader_findMark_8 : decode M_BitReader_findMark.2.1 8 = .ok (.istore_n 3, 1) := by decide +kernel
theorem d_BitReader_findMark_9 : decode M_BitReader_findMark.2.1 9 = .ok (.iload_n 3, 1) := by decide +kernel
theorem d_BitReader_findMark_10 : decode M_BitReader_findMark.2.1 10 = .ok (.sipush 3200, 3) := by decide +kernel
theorem d_BitReader_findMark_13 : decode M_BitReader_findMark.2.1 13 = .ok (.if_icmp .gt 46, 3) := by decide +kernel
theorem d_BitReader_findMark_16 : decode M_BitReader_findMark.2.1 16 = .ok (.aload_n 0, 1) := by decide +kernel
theorem d_BitReader_findMark_17 : decode M_BitReader_findMark.2.1 17 = .ok (.invokevirtual 34, 3) := by decide +kernel
theorem d_BitReader_findMark_20 : decode M_BitReader_findMark.2.1 20 = .ok (.istore 4, 2) := by decide +kernel
theorem d_BitReader_findMark_22 : decode M_BitReader_findMark.2.1 22 = .ok (.iload 4, 2) := by decide +kernel
theorem d_BitReader_findMark_24 : decode M_BitReader_findMark.2.1 24 = .ok (.ifCond .ge 5, 3) := by decide +kernel
theorem d_BitReader_findMark_27 : decode M_BitReader_findMark.2.1 27 = .ok (.iconst 0, 1) := by decide +kernel
theorem d_BitReader_findMark_28 : decode M_BitReader_findMark.2.1 28 = .ok (.ireturn, 1) := by decide +kernel
theorem d_BitReader_findMark_29 : decode M_BitReader_findMark.2.1 29 = .ok (.iload_n 2, 1) := by decide +kernel
theorem d_BitReader_findMark_30 : decode M_BitReader_findMark.2.1 30 = .ok (.iconst 1, 1) := by decide +kernel
theorem d_BitReader_findMark_31 : decode M_BitReader_findMark.2.1 31 = .ok (.ishl, 1) := by decide +kernel
theorem d_BitReader_findMark_32 : decode M_BitReader_findMark.2.1 32 = .ok (.iload 4, 2) := by decide +kernel
theorem d_BitReader_findMark_34 : decode M_BitReader_findMark.2.1 34 = .ok (.ior, 1) := by decide +kernel
theorem d_BitReader_findMark_35 : decode M_BitReader_findMark.2.1 35 = .ok (.ldc 42, 2) := by decide +kernel
theorem d_BitReader_findMark_37 : decode M_BitReader_findMark.2.1 37 = .ok (.iand, 1) := by decide +kernel
theorem d_BitReader_findMark_38 : decode M_BitReader_findMark.2.1 38 = .ok (.istore_n 2, 1) := by decide +kernel
theorem d_BitReader_findMark_39 : decode M_BitReader_findMark.2.1 39 = .ok (.iload_n 2, 1) := by decide +kernel
theorem d_BitReader_findMark_40 : decode M_BitReader_findMark.2.1 40 = .ok (.ldc 43, 2) := by decide +kernel
theorem d_BitReader_findMark_42 : decode M_BitReader_findMark.2.1 42 = .ok (.if_icmp .ne 11, 3) := by decide +kernel
theorem d_BitReader_findMark_45 : decode M_BitReader_findMark.2.1 45 = .ok (.iload_n 3, 1) := by decide +kernel
theorem d_BitReader_findMark_46 : decode M_BitReader_findMark.2.1 46 = .ok (.bipush 24, 2) := by decide +kernel
theorem d_BitReader_findMark_48 : decode M_BitReader_findMark.2.1 48 = .ok (.if_icmp .lt 5, 3) := by decide +kernel
theorem d_BitReader_findMark_51 : decode M_BitReader_findMark.2.1 51 = .ok (.iconst 1, 1) := by decide +kernel
theorem d_BitReader_findMark_52 : decode M_BitReader_findMark.2.1 52 = .ok (.ireturn, 1) := by decide +kernel
theorem d_BitReader_findMark_53 : decode M_BitReader_findMark.2.1 53 = .ok (.iinc 3 1, 3) := by decide +kernel
theorem d_BitReader_findMark_56 : decode M_BitReader_findMark.2.1 56 = .ok (.goto (-47), 3) := by decide +kernel
theorem d_BitReader_findMark_59 : decode M_BitReader_findMark.2.1 59 = .ok (.iconst 0, 1) := by decide +kernel
theorem d_BitReader_findMark_60 : decode M_BitReader_findMark.2.1 60 = .ok (.ireturn, 1) := by decide +kernel
theorem d_BitWriter_init_0 : decode M_BitWriter_init.2.1 0 = .ok (.aload_n 0, 1) := by decide +kernel
theorem d_BitWriter_init_1 : decode M_BitWriter_init.2.1 1 = .ok (.invokespecial 1, 3) := by decide +kernel
theorem d_BitWriter_init_4 : decode M_BitWriter_init.2.1 4 = .ok (.aload_n 0, 1) := by decide +kernel
theorem d_BitWriter_init_5 : decode M_BitWriter_init.2.1 5 = .ok (.iconst 0, 1) := by decide +kernel
theorem d_BitWriter_init_6 : decode M_BitWriter_init.2.1 6 = .ok (.putfield 7, 3) := by decide +kernel
theorem d_BitWriter_init_9 : decode M_BitWriter_init.2.1 9 = .ok (.aload_n 0, 1) := by decide +kernel
theorem d_BitWriter_init_10 : decode M_BitWriter_init.2.1 10 = .ok (.iconst 0, 1) := by decide +kernel
theorem d_BitWriter_init_11 : decode M_BitWriter_init.2.1 11 = .ok (.putfield 13, 3) := by decide +kernel
theorem d_BitWriter_init_14 : decode M_BitWriter_init.2.1 14 = .ok (.aload_n 0, 1) := by decide +kernel
theorem d_BitWriter_init_15 : decode M_BitWriter_init.2.1 15 = .ok (.aload_n 1, 1) := by decide +kernel
theorem d_BitWriter_init_16 : decode M_BitWriter_init.2.1 16 = .ok (.putfield 16, 3) := by decide +kernel
theorem d_BitWriter_init_19 : decode M_BitWriter_init.2.1 19 = .ok (.return_, 1) := by decide +kernel
theorem d_BitWriter_put_0 : decode M_BitWriter_put.2.1 0 = .ok (.iload_n 2, 1) := by decide +kernel
theorem d_BitWriter_put_1 : decode M_BitWriter_put.2.1 1 = .ok (.iconst 1, 1) := by decide +kernel
theorem d_BitWriter_put_2 : decode M_BitWriter_put.2.1 2 = .ok (.isub, 1) := by decide +kernel
theorem d_BitWriter_put_3 : decode M_BitWriter_put.2.1 3 = .ok (.istore_n 3, 1) := by decide +kernel
theorem d_BitWriter_put_4 : decode M_BitWriter_put.2.1 4 = .ok (.iload_n 3, 1) := by decide +kernel
theorem d_BitWriter_put_5 : decode M_BitWriter_put.2.1 5 = .ok (.ifCond .lt 18, 3) := by decide +kernel
theorem d_BitWriter_put_8 : decode M_BitWriter_put.2.1 8 = .ok (.aload_n 0, 1) := by decide +kernel
theorem d_BitWriter_put_9 : decode M_BitWriter_put.2.1 9 = .ok (.iload_n 1, 1) := by decide +kernel
theorem d_BitWriter_put_10 : decode M_BitWriter_put.2.1 10 = .ok (.iload_n 3, 1) := by decide +kernel
theorem d_BitWriter_put_11 : decode M_BitWriter_put.2.1 11 = .ok (.ishr, 1) := by decide +kernel
theorem d_BitWriter_put_12 : decode M_BitWriter_put.2.1 12 = .ok (.iconst 1, 1) := by decide +kernel
theorem d_BitWriter_put_13 : decode M_BitWriter_put.2.1 13 = .ok (.iand, 1) := by decide +kernel
theorem d_BitWriter_put_14 : decode M_BitWriter_put.2.1 14 = .ok (.invokevirtual 20, 3) := by decide +kernel
theorem d_BitWriter_put_17 : decode M_BitWriter_put.2.1 17 = .ok (.iinc 3 (-1), 3) := by decide +kernel
theorem d_BitWriter_put_20 : decode M_BitWriter_put.2.1 20 = .ok (.goto (-16), 3) := by decide +kernel
theorem d_BitWriter_put_23 : decode M_BitWriter_put.2.1 23 = .ok (.return_, 1) := by decide +kernel
theorem d_BitWriter_fillByte_0 : decode M_BitWriter_fillByte.2.1 0 = .ok (.aload_n 0, 1) := by decide +kernel
theorem d_BitWriter_fillByte_1 : decode M_BitWriter_fillByte.2.1 1 = .ok (.getfield 13, 3) := by decide +kernel
theorem d_BitWriter_fillByte_4 : decode M_BitWriter_fillByte.2.1 4 = .ok (.ifCond .le 15, 3) := by decide +kernel
theorem d_BitWriter_fillByte_7 : decode M_BitWriter_fillByte.2.1 7 = .ok (.aload_n 0, 1) := by decide +kernel
theorem d_BitWriter_fillByte_8 : decode M_BitWriter_fillByte.2.1 8 = .ok (.iconst 0, 1) := by decide +kernel
theorem d_BitWriter_fillByte_9 : decode M_BitWriter_fillByte.2.1 9 = .ok (.bipush 8, 2) := by decide +kernel
theorem d_BitWriter_fillByte_11 : decode M_BitWriter_fillByte.2.1 11 = .ok (.aload_n 0, 1) := by decide +kernel
theorem d_BitWriter_fillByte_12 : decode M_BitWriter_fillByte.2.1 12 = .ok (.getfield 13, 3) := by decide +kernel
theorem d_BitWriter_fillByte_15 : decode M_BitWriter_fillByte.2.1 15 = .ok (.isub, 1) := by decide +kernel
theorem d_BitWriter_fillByte_16 : decode M_BitWriter_fillByte.2.1 16 = .ok (.invokevirtual 24, 3) := by decide +kernel
theorem d_BitWriter_fillByte_19 : decode M_BitWriter_fillByte.2.1 19 = .ok (.return_, 1) := by decide +kernel
theorem d_BitWriter_putBit_0 : decode M_BitWriter_putBit.2.1 0 = .ok (.aload_n 0, 1) := by decide +kernel
theorem d_BitWriter_putBit_1 : decode M_BitWriter_putBit.2.1 1 = .ok (.aload_n 0, 1) := by decide +kernel
theorem d_BitWriter_putBit_2 : decode M_BitWriter_putBit.2.1 2 = .ok (.getfield 7, 3) := by decide +kernel
theorem d_BitWriter_putBit_5 : decode M_BitWriter_putBit.2.1 5 = .ok (.iconst 1, 1) := by decide +kernel
theorem d_BitWriter_putBit_6 : decode M_BitWriter_putBit.2.1 6 = .ok (.ishl, 1) := by decide +kernel
theorem d_BitWriter_putBit_7 : decode M_BitWriter_putBit.2.1 7 = .ok (.iload_n 1, 1) := by decide +kernel
theorem d_BitWriter_putBit_8 : decode M_BitWriter_putBit.2.1 8 = .ok (.ior, 1) := by decide +kernel
theorem d_BitWriter_putBit_9 : decode M_BitWriter_putBit.2.1 9 = .ok (.putfield 7, 3) := by decide +kernel
theorem d_BitWriter_putBit_12 : decode M_BitWriter_putBit.2.1 12 = .ok (.aload_n 0, 1) := by decide +kernel
theorem d_BitWriter_putBit_13 : decode M_BitWriter_putBit.2.1 13 = .ok (.dup, 1) := by decide +kernel
theorem d_BitWriter_putBit_14 : decode M_BitWriter_putBit.2.1 14 = .ok (.getfield 13, 3) := by decide +kernel
theorem d_BitWriter_putBit_17 : decode M_BitWriter_putBit.2.1 17 = .ok (.iconst 1, 1) := by decide +kernel
theorem d_BitWriter_putBit_18 : decode M_BitWriter_putBit.2.1 18 = .ok (.iadd, 1) := by decide +kernel
theorem d_BitWriter_putBit_19 : decode M_BitWriter_putBit.2.1 19 = .ok (.putfield 13, 3) := by decide +kernel
theorem d_BitWriter_putBit_22 : decode M_BitWriter_putBit.2.1 22 = .ok (.aload_n 0, 1) := by decide +kernel
theorem d_BitWriter_putBit_23 : decode M_BitWriter_putBit.2.1 23 = .ok (.getfield 13, 3) := by decide +kernel
theorem d_BitWriter_putBit_26 : decode M_BitWriter_putBit.2.1 26 = .ok (.bipush 8, 2) := by decide +kernel
theorem d_BitWriter_putBit_28 : decode M_BitWriter_putBit.2.1 28 = .ok (.if_icmp .ne 24, 3) := by decide +kernel
theorem d_BitWriter_putBit_31 : decode M_BitWriter_putBit.2.1 31 = .ok (.aload_n 0, 1) := by decide +kernel
theorem d_BitWriter_putBit_32 : decode M_BitWriter_putBit.2.1 32 = .ok (.getfield 16, 3) := by decide +kernel
theorem d_BitWriter_putBit_35 : decode M_BitWriter_putBit.2.1 35 = .ok (.aload_n 0, 1) := by decide +kernel
theorem d_BitWriter_putBit_36 : decode M_BitWriter_putBit.2.1 36 = .ok (.getfield 7, 3) := by decide +kernel
theorem d_BitWriter_putBit_39 : decode M_BitWriter_putBit.2.1 39 = .ok (.invokevirtual 28, 3) := by decide +kernel
theorem d_BitWriter_putBit_42 : decode M_BitWriter_putBit.2.1 42 = .ok (.aload_n 0, 1) := by decide +kernel
theorem d_BitWriter_putBit_43 : decode M_BitWriter_putBit.2.1 43 = .ok (.iconst 0, 1) := by decide +kernel
theorem d_BitWriter_putBit_44 : decode M_BitWriter_putBit.2.1 44 = .ok (.putfield 7, 3) := by decide +kernel
theorem d_BitWriter_putBit_47 : decode M_BitWriter_putBit.2.1 47 = .ok (.aload_n 0, 1) := by decide +kernel
theorem d_BitWriter_putBit_48 : decode M_BitWriter_putBit.2.1 48 = .ok (.iconst 0, 1) := by decide +kernel
theorem d_BitWriter_putBit_49 : decode M_BitWriter_putBit.2.1 49 = .ok (.putfield 13, 3) := by decide +kernel
theorem d_BitWriter_putBit_52 : decode M_BitWriter_putBit.2.1 52 = .ok (.return_, 1) := by decide +kernel
theorem d_Block_init_0 : decode M_Block_init.2.1 0 = .ok (.aload_n 0, 1) := by decide +kernel
theorem d_Block_init_1 : decode M_Block_init.2.1 1 = .ok (.invokespecial 3, 3) := by decide +kernel
theorem d_Block_init_4 : decode M_Block_init.2.1 4 = .ok (.aload_n 0, 1) := by decide +kernel
theorem d_Block_init_5 : decode M_Block_init.2.1 5 = .ok (.iconst 0, 1) := by decide +kernel
theorem d_Block_init_6 : decode M_Block_init.2.1 6 = .ok (.putfield 9, 3) := by decide +kernel
theorem d_Block_init_9 : decode M_Block_init.2.1 9 = .ok (.aload_n 0, 1) := by decide +kernel
theorem d_Block_init_10 : decode M_Block_init.2.1 10 = .ok (.iconst 0, 1) := by decide +kernel
theorem d_Block_init_11 : decode M_Block_init.2.1 11 = .ok (.putfield 15, 3) := by decide +kernel
theorem d_Block_init_14 : decode M_Block_init.2.1 14 = .ok (.aload_n 0, 1) := by decide +kernel
theorem d_Block_init_15 : decode M_Block_init.2.1 15 = .ok (.iconst 0, 1) := by decide +kernel
theorem d_Block_init_16 : decode M_Block_init.2.1 16 = .ok (.putfield 18, 3) := by decide +kernel
theorem d_Block_init_19 : decode M_Block_init.2.1 19 = .ok (.aload_n 0, 1) := by decide +kernel
theorem d_Block_init_20 : decode M_Block_init.2.1 20 = .ok (.bipush 64, 2) := by decide +kernel
theorem d_Block_init_22 : decode M_Block_init.2.1 22 = .ok (.newarray .int, 2) := by decide +kernel
theorem d_Block_init_24 : decode M_Block_init.2.1 24 = .ok (.putfield 21, 3) := by decide +kernel
theorem d_Block_init_27 : decode M_Block_init.2.1 27 = .ok (.aload_n 0, 1) := by decide +kernel
theorem d_Block_init_28 : decode M_Block_init.2.1 28 = .ok (.bipush 64, 2) := by decide +kernel
theorem d_Block_init_30 : decode M_Block_init.2.1 30 = .ok (.newarray .int, 2) := by decide +kernel
theorem d_Block_init_32 : decode M_Block_init.2.1 32 = .ok (.putfield 25, 3) := by decide +kernel
theorem d_Block_init_35 : decode M_Block_init.2.1 35 = .ok (.aload_n 0, 1) := by decide +kernel
theorem d_Block_init_36 : decode M_Block_init.2.1 36 = .ok (.iconst 0, 1) := by decide +kernel
theorem d_Block_init_37 : decode M_Block_init.2.1 37 = .ok (.putfield 28, 3) := by decide +kernel
theorem d_Block_init_40 : decode M_Block_init.2.1 40 = .ok (.aload_n 0, 1) := by decide +kernel
theorem d_Block_init_41 : decode M_Block_init.2.1 41 = .ok (.sipush 256, 3) := by decide +kernel
theorem d_Block_init_44 : decode M_Block_init.2.1 44 = .ok (.newarray .int, 2) := by decide +kernel
theorem d_Block_init_46 : decode M_Block_init.2.1 46 = .ok (.putfield 31, 3) := by decide +kernel
theorem d_Block_init_49 : decode M_Block_init.2.1 49 = .ok (.aload_n 0, 1) := by decide +kernel
theorem d_Block_init_50 : decode M_Block_init.2.1 50 = .ok (.iconst 0, 1) := by decide +kernel
theorem d_Block_init_51 : decode M_Block_init.2.1 51 = .ok (.putfield 34, 3) := by decide +kernel
theorem d_Block_init_54 : decode M_Block_init.2.1 54 = .ok (.aload_n 0, 1) := by decide +kernel
theorem d_Block_init_55 : decode M_Block_init.2.1 55 = .ok (.bipush 65, 2) := by decide +kernel
theorem d_Block_init_57 : decode M_Block_init.2.1 57 = .ok (.newarray .int, 2) := by decide +kernel
theorem d_Block_init_59 : decode M_Block_init.2.1 59 = .ok (.putfield 37, 3) := by decide +kernel
theorem d_Block_init_62 : decode M_Block_init.2.1 62 = .ok (.aload_n 0, 1) := by decide +kernel
theorem d_Block_init_63 : decode M_Block_init.2.1 63 = .ok (.iconst 0, 1) := by decide +kernel
theorem d_Block_init_64 : decode M_Block_init.2.1 64 = .ok (.putfield 40, 3) := by decide +kernel
theorem d_Block_init_67 : decode M_Block_init.2.1 67 = .ok (.aload_n 0, 1) := by decide +kernel
theorem d_Block_init_68 : decode M_Block_init.2.1 68 = .ok (.iconst 4, 1) := by decide +kernel
theorem d_Block_init_69 : decode M_Block_init.2.1 69 = .ok (.sipush 258, 3) := by decide +kernel
theorem d_Block_init_72 : decode M_Block_init.2.1 72 = .ok (.multianewarray 43 2, 4) := by decide +kernel
theorem d_Block_init_76 : decode M_Block_init.2.1 76 = .ok (.putfield 45, 3) := by decide +kernel
theorem d_Block_init_79 : decode M_Block_init.2.1 79 = .ok (.aload_n 0, 1) := by decide +kernel
theorem d_Block_init_80 : decode M_Block_init.2.1 80 = .ok (.iconst 0, 1) := by decide +kernel
theorem d_Block_init_81 : decode M_Block_init.2.1 81 = .ok (.putfield 48, 3) := by decide +kernel
theorem d_Block_init_84 : decode M_Block_init.2.1 84 = .ok (.aload_n 0, 1) := by decide +kernel
theorem d_Block_init_85 : decode M_Block_init.2.1 85 = .ok (.bipush 63, 2) := by decide +kernel
theorem d_Block_init_87 : decode M_Block_init.2.1 87 = .ok (.newarray .int, 2) := by decide +kernel
theorem d_Block_init_89 : decode M_Block_init.2.1 89 = .ok (.putfield 51, 3) := by decide +kernel
theorem d_Block_init_92 : decode M_Block_init.2.1 92 = .ok (.return_, 1) := by decide +kernel
theorem d_Block_symbolKinds_0 : decode M_Block_symbolKinds.2.1 0 = .ok (.aload_n 0, 1) := by decide +kernel
theorem d_Block_symbolKinds_1 : decode M_Block_symbolKinds.2.1 1 = .ok (.getfield 28, 3) := by decide +kernel
theorem d_Block_symbolKinds_4 : decode M_Block_symbolKinds.2.1 4 = .ok (.iconst 2, 1) := by decide +kernel
theorem d_Block_symbolKinds_5 : decode M_Block_symbolKinds.2.1 5 = .ok (.iadd, 1) := by decide +kernel
theorem d_Block_symbolKinds_6 : decode M_Block_symbolKinds.2.1 6 = .ok (.ireturn, 1) := by decide +kernel
theorem d_Block_endSymbol_0 : decode M_Block_endSymbol.2.1 0 = .ok (.aload_n 0, 1) := by decide +kernel
theorem d_Block_endSymbol_1 : decode M_Block_endSymbol.2.1 1 = .ok (.getfield 28, 3) := by decide +kernel
theorem d_Block_endSymbol_4 : decode M_Block_endSymbol.2.1 4 = .ok (.iconst 1, 1) := by decide +kernel
theorem d_Block_endSymbol_5 : decode M_Block_endSymbol.2.1 5 = .ok (.iadd, 1) := by decide +kernel
theorem d_Block_endSymbol_6 : decode M_Block_endSymbol.2.1 6 = .ok (.ireturn, 1) := by decide +kernel
theorem d_Block_addKind_0 : decode M_Block_addKind.2.1 0 = .ok (.aload_n 0, 1) := by decide +kernel
theorem d_Block_addKind_1 : decode M_Block_addKind.2.1 1 = .ok (.getfield 28, 3) := by decide +kernel
theorem d_Block_addKind_4 : decode M_Block_addKind.2.1 4 = .ok (.sipush 256, 3) := by decide +kernel
theorem d_Block_addKind_7 : decode M_Block_addKind.2.1 7 = .ok (.if_icmp .ge 23, 3) := by decide +kernel
theorem d_Block_addKind_10 : decode M_Block_addKind.2.1 10 = .ok (.aload_n 0, 1) := by decide +kernel
theorem d_Block_addKind_11 : decode M_Block_addKind.2.1 11 = .ok (.getfield 31, 3) := by decide +kernel
theorem d_Block_addKind_14 : decode M_Block_addKind.2.1 14 = .ok (.aload_n 0, 1) := by decide +kernel
theorem d_Block_addKind_15 : decode M_Block_addKind.2.1 15 = .ok (.getfield 28, 3) := by decide +kernel
theorem d_Block_addKind_18 : decode M_Block_addKind.2.1 18 = .ok (.iload_n 1, 1) := by decide +kernel
theorem d_Block_addKind_19 : decode M_Block_addKind.2.1 19 = .ok (.iastore, 1) := by decide +kernel
theorem d_Block_addKind_20 : decode M_Block_addKind.2.1 20 = .ok (.aload_n 0, 1) := by decide +kernel
theorem d_Block_addKind_21 : decode M_Block_addKind.2.1 21 = .ok (.dup, 1) := by decide +kernel
theorem d_Block_addKind_22 : decode M_Block_addKind.2.1 22 = .ok (.getfield 28, 3) := by decide +kernel
theorem d_Block_addKind_25 : decode M_Block_addKind.2.1 25 = .ok (.iconst 1, 1) := by decide +kernel
theorem d_Block_addKind_26 : decode M_Block_addKind.2.1 26 = .ok (.iadd, 1) := by decide +kernel
theorem d_Block_addKind_27 : decode M_Block_addKind.2.1 27 = .ok (.putfield 28, 3) := by decide +kernel
theorem d_Block_addKind_30 : decode M_Block_addKind.2.1 30 = .ok (.return_, 1) := by decide +kernel
theorem d_Block_addShortened_0 : decode M_Block_addShortened.2.1 0 = .ok (.aload_n 0, 1) := by decide +kernel
theorem d_Block_addShortened_1 : decode M_Block_addShortened.2.1 1 = .ok (.getfield 18, 3) := by decide +kernel
theorem d_Block_addShortened_4 : decode M_Block_addShortened.2.1 4 = .ok (.bipush 64, 2) := by decide +kernel
theorem d_Block_addShortened_6 : decode M_Block_addShortened.2.1 6 = .ok (.if_icmp .ge 23, 3) := by decide +kernel
theorem d_Block_addShortened_9 : decode M_Block_addShortened.2.1 9 = .ok (.aload_n 0, 1) := by decide +kernel
theorem d_Block_addShortened_10 : decode M_Block_addShortened.2.1 10 = .ok (.getfield 21, 3) := by decide +kernel
theorem d_Block_addShortened_13 : decode M_Block_addShortened.2.1 13 = .ok (.aload_n 0, 1) := by decide +kernel
theorem d_Block_addShortened_14 : decode M_Block_addShortened.2.1 14 = .ok (.getfield 18, 3) := by decide +kernel
theorem d_Block_addShortened_17 : decode M_Block_addShortened.2.1 17 = .ok (.iload_n 1, 1) := by decide +kernel
theorem d_Block_addShortened_18 : decode M_Block_addShortened.2.1 18 = .ok (.iastore, 1) := by decide +kernel
theorem d_Block_addShortened_19 : decode M_Block_addShortened.2.1 19 = .ok (.aload_n 0, 1) := by decide +kernel
theorem d_Block_addShortened_20 : decode M_Block_addShortened.2.1 20 = .ok (.dup, 1) := by decide +kernel
theorem d_Block_addShortened_21 : decode M_Block_addShortened.2.1 21 = .ok (.getfield 18, 3) := by decide +kernel
theorem d_Block_addShortened_24 : decode M_Block_addShortened.2.1 24 = .ok (.iconst 1, 1) := by decide +kernel
theorem d_Block_addShortened_25 : decode M_Block_addShortened.2.1 25 = .ok (.iadd, 1) := by decide +kernel
theorem d_Block_addShortened_26 : decode M_Block_addShortened.2.1 26 = .ok (.putfield 18, 3) := by decide +kernel
theorem d_Block_addShortened_29 : decode M_Block_addShortened.2.1 29 = .ok (.return_, 1) := by decide +kernel
theorem d_Block_addToColumn_0 : decode M_Block_addToColumn.2.1 0 = .ok (.aload_n 0, 1) := by decide +kernel
theorem d_Block_addToColumn_1 : decode M_Block_addToColumn.2.1 1 = .ok (.getfield 18, 3) := by decide +kernel
theorem d_Block_addToColumn_4 : decode M_Block_addToColumn.2.1 4 = .ok (.bipush 64, 2) := by decide +kernel
theorem d_Block_addToColumn_6 : decode M_Block_addToColumn.2.1 6 = .ok (.if_icmp .ge 23, 3) := by decide +kernel
theorem d_Block_addToColumn_9 : decode M_Block_addToColumn.2.1 9 = .ok (.aload_n 0, 1) := by decide +kernel
theorem d_Block_addToColumn_10 : decode M_Block_addToColumn.2.1 10 = .ok (.getfield 25, 3) := by decide +kernel
theorem d_Block_addToColumn_13 : decode M_Block_addToColumn.2.1 13 = .ok (.aload_n 0, 1) := by decide +kernel
theorem d_Block_addToColumn_14 : decode M_Block_addToColumn.2.1 14 = .ok (.getfield 18, 3) := by decide +kernel
theorem d_Block_addToColumn_17 : decode M_Block_addToColumn.2.1 17 = .ok (.iload_n 1, 1) := by decide +kernel
theorem d_Block_addToColumn_18 : decode M_Block_addToColumn.2.1 18 = .ok (.iastore, 1) := by decide +kernel
theorem d_Block_addToColumn_19 : decode M_Block_addToColumn.2.1 19 = .ok (.aload_n 0, 1) := by decide +kernel
theorem d_Block_addToColumn_20 : decode M_Block_addToColumn.2.1 20 = .ok (.dup, 1) := by decide +kernel
theorem d_Block_addToColumn_21 : decode M_Block_addToColumn.2.1 21 = .ok (.getfield 18, 3) := by decide +kernel
theorem d_Block_addToColumn_24 : decode M_Block_addToColumn.2.1 24 = .ok (.iconst 1, 1) := by decide +kernel
theorem d_Block_addToColumn_25 : decode M_Block_addToColumn.2.1 25 = .ok (.iadd, 1) := by decide +kernel
theorem d_Block_addToColumn_26 : decode M_Block_addToColumn.2.1 26 = .ok (.putfield 18, 3) := by decide +kernel
theorem d_Block_addToColumn_29 : decode M_Block_addToColumn.2.1 29 = .ok (.return_, 1) := by decide +kernel
theorem d_Block_addSymbol_0 : decode M_Block_addSymbol.2.1 0 = .ok (.aload_n 0, 1) := by decide +kernel
theorem d_Block_addSymbol_1 : decode M_Block_addSymbol.2.1 1 = .ok (.getfield 34, 3) := by decide +kernel
theorem d_Block_addSymbol_4 : decode M_Block_addSymbol.2.1 4 = .ok (.bipush 65, 2) := by decide +kernel
theorem d_Block_addSymbol_6 : decode M_Block_addSymbol.2.1 6 = .ok (.if_icmp .ge 23, 3) := by decide +kernel
theorem d_Block_addSymbol_9 : decode M_Block_addSymbol.2.1 9 = .ok (.aload_n 0, 1) := by decide +kernel
theorem d_Block_addSymbol_10 : decode M_Block_addSymbol.2.1 10 = .ok (.getfield 37, 3) := by decide +kernel
theorem d_Block_addSymbol_13 : decode M_Block_addSymbol.2.1 13 = .ok (.aload_n 0, 1) := by decide +kernel
theorem d_Block_addSymbol_14 : decode M_Block_addSymbol.2.1 14 = .ok (.getfield 34, 3) := by decide +kernel
theorem d_Block_addSymbol_17 : decode M_Block_addSymbol.2.1 17 = .ok (.iload_n 1, 1) := by decide +kernel
theorem d_Block_addSymbol_18 : decode M_Block_addSymbol.2.1 18 = .ok (.iastore, 1) := by decide +kernel
theorem d_Block_addSymbol_19 : decode M_Block_addSymbol.2.1 19 = .ok (.aload_n 0, 1) := by decide +kernel
theorem d_Block_addSymbol_20 : decode M_Block_addSymbol.2.1 20 = .ok (.dup, 1) := by decide +kernel
theorem d_Block_addSymbol_21 : decode M_Block_addSymbol.2.1 21 = .ok (.getfield 34, 3) := by decide +kernel
theorem d_Block_addSymbol_24 : decode M_Block_addSymbol.2.1 24 = .ok (.iconst 1, 1) := by decide +kernel
theorem d_Block_addSymbol_25 : decode M_Block_addSymbol.2.1 25 = .ok (.iadd, 1) := by decide +kernel
theorem d_Block_addSymbol_26 : decode M_Block_addSymbol.2.1 26 = .ok (.putfield 34, 3) := by decide +kernel
theorem d_Block_addSymbol_29 : decode M_Block_addSymbol.2.1 29 = .ok (.return_, 1) := by decide +kernel
theorem d_Block_pickOfSymbol_0 : decode M_Block_pickOfSymbol.2.1 0 = .ok (.iload_n 1, 1) := by decide +kernel
theorem d_Block_pickOfSymbol_1 : decode M_Block_pickOfSymbol.2.1 1 = .ok (.bipush 8, 2) := by decide +kernel
theorem d_Block_pickOfSymbol_3 : decode M_Block_pickOfSymbol.2.1 3 = .ok (.idiv, 1) := by decide +kernel
theorem d_Block_pickOfSymbol_4 : decode M_Block_pickOfSymbol.2.1 4 = .ok (.istore_n 2, 1) := by decide +kernel
theorem d_Block_pickOfSymbol_5 : decode M_Block_pickOfSymbol.2.1 5 = .ok (.iload_n 2, 1) := by decide +kernel
theorem d_Block_pickOfSymbol_6 : decode M_Block_pickOfSymbol.2.1 6 = .ok (.ifCond .lt 20, 3) := by decide +kernel
theorem d_Block_pickOfSymbol_9 : decode M_Block_pickOfSymbol.2.1 9 = .ok (.iload_n 2, 1) := by decide +kernel
theorem d_Block_pickOfSymbol_10 : decode M_Block_pickOfSymbol.2.1 10 = .ok (.aload_n 0, 1) := by decide +kernel
theorem d_Block_pickOfSymbol_11 : decode M_Block_pickOfSymbol.2.1 11 = .ok (.getfield 48, 3) := by decide +kernel
theorem d_Block_pickOfSymbol_14 : decode M_Block_pickOfSymbol.2.1 14 = .ok (.if_icmp .ge 12, 3) := by decide +kernel
theorem d_Block_pickOfSymbol_17 : decode M_Block_pickOfSymbol.2.1 17 = .ok (.aload_n 0, 1) := by decide +kernel
theorem d_Block_pickOfSymbol_18 : decode M_Block_pickOfSymbol.2.1 18 = .ok (.getfield 51, 3) := by decide +kernel
theorem d_Block_pickOfSymbol_21 : decode M_Block_pickOfSymbol.2.1 21 = .ok (.iload_n 2, 1) := by decide +kernel
theorem d_Block_pickOfSymbol_22 : decode M_Block_pickOfSymbol.2.1 22 = .ok (.iaload, 1) := by decide +kernel
theorem d_Block_pickOfSymbol_23 : decode M_Block_pickOfSymbol.2.1 23 = .ok (.goto 4, 3) := by decide +kernel
theorem d_Block_pickOfSymbol_26 : decode M_Block_pickOfSymbol.2.1 26 = .ok (.iconst 0, 1) := by decide +kernel
theorem d_Block_pickOfSymbol_27 : decode M_Block_pickOfSymbol.2.1 27 = .ok (.ireturn, 1) := by decide +kernel
theorem d_BlockMaker_init_0 : decode M_BlockMaker_init.2.1 0 = .ok (.aload_n 0, 1) := by decide +kernel
theorem d_BlockMaker_init_1 : decode M_BlockMaker_init.2.1 1 = .ok (.invokespecial 3, 3) := by decide +kernel
theorem d_BlockMaker_init_4 : decode M_BlockMaker_init.2.1 4 = .ok (.aload_n 0, 1) := by decide +kernel
theorem d_BlockMaker_init_5 : decode M_BlockMaker_init.2.1 5 = .ok (.bipush 64, 2) := by decide +kernel
theorem d_BlockMaker_init_7 : decode M_BlockMaker_init.2.1 7 = .ok (.newarray .int, 2) := by decide +kernel
theorem d_BlockMaker_init_9 : decode M_BlockMaker_init.2.1 9 = .ok (.putfield 9, 3) := by decide +kernel
theorem d_BlockMaker_init_12 : decode M_BlockMaker_init.2.1 12 = .ok (.aload_n 0, 1) := by decide +kernel
theorem d_BlockMaker_init_13 : decode M_BlockMaker_init.2.1 13 = .ok (.sipush 256, 3) := by decide +kernel
theorem d_BlockMaker_init_16 : decode M_BlockMaker_init.2.1 16 = .ok (.newarray .int, 2) := by decide +kernel
theorem d_BlockMaker_init_18 : decode M_BlockMaker_init.2.1 18 = .ok (.putfield 15, 3) := by decide +kernel
theorem d_BlockMaker_init_21 : decode M_BlockMaker_init.2.1 21 = .ok (.aload_n 0, 1) := by decide +kernel
theorem d_BlockMaker_init_22 : decode M_BlockMaker_init.2.1 22 = .ok (.new 18, 3) := by decide +kernel
theorem d_BlockMaker_init_25 : decode M_BlockMaker_init.2.1 25 = .ok (.dup, 1) := by decide +kernel
theorem d_BlockMaker_init_26 : decode M_BlockMaker_init.2.1 26 = .ok (.invokespecial 20, 3) := by decide +kernel
theorem d_BlockMaker_init_29 : decode M_BlockMaker_init.2.1 29 = .ok (.putfield 21, 3) := by decide +kernel
theorem d_BlockMaker_init_32 : decode M_BlockMaker_init.2.1 32 = .ok (.aload_n 0, 1) := by decide +kernel
theorem d_BlockMaker_init_33 : decode M_BlockMaker_init.2.1 33 = .ok (.new 25, 3) := by decide +kernel
theorem d_BlockMaker_init_36 : decode M_BlockMaker_init.2.1 36 = .ok (.dup, 1) := by decide +kernel
theorem d_BlockMaker_init_37 : decode M_BlockMaker_init.2.1 37 = .ok (.invokespecial 27, 3) := by decide +kernel
theorem d_BlockMaker_init_40 : decode M_BlockMaker_init.2.1 40 = .ok (.putfield 28, 3) := by decide +kernel
theorem d_BlockMaker_init_43 : decode M_BlockMaker_init.2.1 43 = .ok (.return_, 1) := by decide +kernel
theorem d_BlockMaker_makeBlock_0 : decode M_BlockMaker_makeBlock.2.1 0 = .ok (.aload_n 1, 1) := by decide +kernel
theorem d_BlockMaker_makeBlock_1 : decode M_BlockMaker_makeBlock.2.1 1 = .ok (.aload_n 2, 1) := by decide +kernel
theorem d_BlockMaker_makeBlock_2 : decode M_BlockMaker_makeBlock.2.1 2 = .ok (.iload_n 3, 1) := by decide +kernel
theorem d_BlockMaker_makeBlock_3 : decode M_BlockMaker_makeBlock.2.1 3 = .ok (.iload 4, 2) := by decide +kernel
theorem d_BlockMaker_makeBlock_5 : decode M_BlockMaker_makeBlock.2.1 5 = .ok (.invokestatic 32, 3) := by decide +kernel
theorem d_BlockMaker_makeBlock_8 : decode M_BlockMaker_makeBlock.2.1 8 = .ok (.istore 5, 2) := by decide +kernel
theorem d_BlockMaker_makeBlock_10 : decode M_BlockMaker_makeBlock.2.1 10 = .ok (.aload_n 1, 1) := by decide +kernel
theorem d_BlockMaker_makeBlock_11 : decode M_BlockMaker_makeBlock.2.1 11 = .ok (.aload_n 2, 1) := by decide +kernel
theorem d_BlockMaker_makeBlock_12 : decode M_BlockMaker_makeBlock.2.1 12 = .ok (.iload_n 3, 1) := by decide +kernel
theorem d_BlockMaker_makeBlock_13 : decode M_BlockMaker_makeBlock.2.1 13 = .ok (.iload 5, 2) := by decide +kernel
theorem d_BlockMaker_makeBlock_15 : decode M_BlockMaker_makeBlock.2.1 15 = .ok (.invokestatic 36, 3) := by decide +kernel
theorem d_BlockMaker_makeBlock_18 : decode M_BlockMaker_makeBlock.2.1 18 = .ok (.putfield 40, 3) := by decide +kernel
theorem d_BlockMaker_makeBlock_21 : decode M_BlockMaker_makeBlock.2.1 21 = .ok (.aload_n 0, 1) := by decide +kernel
theorem d_BlockMaker_makeBlock_22 : decode M_BlockMaker_makeBlock.2.1 22 = .ok (.aload_n 1, 1) := by decide +kernel
theorem d_BlockMaker_makeBlock_23 : decode M_BlockMaker_makeBlock.2.1 23 = .ok (.invokevirtual 46, 3) := by decide +kernel
theorem d_BlockMaker_makeBlock_26 : decode M_BlockMaker_makeBlock.2.1 26 = .ok (.aload_n 0, 1) := by decide +kernel
theorem d_BlockMaker_makeBlock_27 : decode M_BlockMaker_makeBlock.2.1 27 = .ok (.aload_n 1, 1) := by decide +kernel
theorem d_BlockMaker_makeBlock_28 : decode M_BlockMaker_makeBlock.2.1 28 = .ok (.invokevirtual 50, 3) := by decide +kernel
theorem d_BlockMaker_makeBlock_31 : decode M_BlockMaker_makeBlock.2.1 31 = .ok (.aload_n 0, 1) := by decide +kernel
theorem d_BlockMaker_makeBlock_32 : decode M_BlockMaker_makeBlock.2.1 32 = .ok (.aload_n 1, 1) := by decide +kernel
theorem d_BlockMaker_makeBlock_33 : decode M_BlockMaker_makeBlock.2.1 33 = .ok (.invokevirtual 53, 3) := by decide +kernel
theorem d_BlockMaker_makeBlock_36 : decode M_BlockMaker_makeBlock.2.1 36 = .ok (.aload_n 0, 1) := by decide +kernel
theorem d_BlockMaker_makeBlock_37 : decode M_BlockMaker_makeBlock.2.1 37 = .ok (.aload_n 1, 1) := by decide +kernel
theorem d_BlockMaker_makeBlock_38 : decode M_BlockMaker_makeBlock.2.1 38 = .ok (.invokevirtual 56, 3) := by decide +kernel
theorem d_BlockMaker_makeBlock_41 : decode M_BlockMaker_makeBlock.2.1 41 = .ok (.aload_n 0, 1) := by decide +kernel
theorem d_BlockMaker_makeBlock_42 : decode M_BlockMaker_makeBlock.2.1 42 = .ok (.getfield 28, 3) := by decide +kernel
theorem d_BlockMaker_makeBlock_45 : decode M_BlockMaker_makeBlock.2.1 45 = .ok (.aload_n 1, 1) := by decide +kernel
theorem d_BlockMaker_makeBlock_46 : decode M_BlockMaker_makeBlock.2.1 46 = .ok (.invokevirtual 59, 3) := by decide +kernel
theorem d_BlockMaker_makeBlock_49 : decode M_BlockMaker_makeBlock.2.1 49 = .ok (.iload 5, 2) := by decide +kernel
theorem d_BlockMaker_makeBlock_51 : decode M_BlockMaker_makeBlock.2.1 51 = .ok (.ireturn, 1) := by decide +kernel
theorem d_BlockMaker_shorten_0 : decode M_BlockMaker_shorten.2.1 0 = .ok (.aload_n 0, 1) := by decide +kernel
theorem d_BlockMaker_shorten_1 : decode M_BlockMaker_shorten.2.1 1 = .ok (.iconst 0, 1) := by decide +kernel
theorem d_BlockMaker_shorten_2 : decode M_BlockMaker_shorten.2.1 2 = .ok (.putfield 62, 3) := by decide +kernel
theorem d_BlockMaker_shorten_5 : decode M_BlockMaker_shorten.2.1 5 = .ok (.iconst 0, 1) := by decide +kernel
theorem d_BlockMaker_shorten_6 : decode M_BlockMaker_shorten.2.1 6 = .ok (.istore 4, 2) := by decide +kernel
theorem d_BlockMaker_shorten_8 : decode M_BlockMaker_shorten.2.1 8 = .ok (.iload_n 2, 1) := by decide +kernel
theorem d_BlockMaker_shorten_9 : decode M_BlockMaker_shorten.2.1 9 = .ok (.istore 5, 2) := by decide +kernel
theorem d_BlockMaker_shorten_11 : decode M_BlockMaker_shorten.2.1 11 = .ok (.iload 5, 2) := by decide +kernel
theorem d_BlockMaker_shorten_13 : decode M_BlockMaker_shorten.2.1 13 = .ok (.aload_n 1, 1) := by decide +kernel
theorem d_BlockMaker_shorten_14 : decode M_BlockMaker_shorten.2.1 14 = .ok (.getfield 65, 3) := by decide +kernel
theorem d_BlockMaker_shorten_17 : decode M_BlockMaker_shorten.2.1 17 = .ok (.if_icmp .ge 154, 3) := by decide +kernel
theorem d_BlockMaker_shorten_20 : decode M_BlockMaker_shorten.2.1 20 = .ok (.iload 5, 2) := by decide +kernel
theorem d_BlockMaker_shorten_22 : decode M_BlockMaker_shorten.2.1 22 = .ok (.iload_n 2, 1) := by decide +kernel
theorem d_BlockMaker_shorten_23 : decode M_BlockMaker_shorten.2.1 23 = .ok (.if_icmp .le 32, 3) := by decide +kernel
theorem d_BlockMaker_shorten_26 : decode M_BlockMaker_shorten.2.1 26 = .ok (.aload_n 1, 1) := by decide +kernel
theorem d_BlockMaker_shorten_27 : decode M_BlockMaker_shorten.2.1 27 = .ok (.iload 5, 2) := by decide +kernel
theorem d_BlockMaker_shorten_29 : decode M_BlockMaker_shorten.2.1 29 = .ok (.invokevirtual 68, 3) := by decide +kernel
theorem d_BlockMaker_shorten_32 : decode M_BlockMaker_shorten.2.1 32 = .ok (.aload_n 1, 1) := by decide +kernel
theorem d_BlockMaker_shorten_33 : decode M_BlockMaker_shorten.2.1 33 = .ok (.iload 5, 2) := by decide +kernel
theorem d_BlockMaker_shorten_35 : decode M_BlockMaker_shorten.2.1 35 = .ok (.iconst 1, 1) := by decide +kernel
theorem d_BlockMaker_shorten_36 : decode M_BlockMaker_shorten.2.1 36 = .ok (.isub, 1) := by decide +kernel
theorem d_BlockMaker_shorten_37 : decode M_BlockMaker_shorten.2.1 37 = .ok (.invokevirtual 68, 3) := by decide +kernel
theorem d_BlockMaker_shorten_40 : decode M_BlockMaker_shorten.2.1 40 = .ok (.if_icmp .ne 15, 3) := by decide +kernel
theorem d_BlockMaker_shorten_43 : decode M_BlockMaker_shorten.2.1 43 = .ok (.iload 4, 2) := by decide +kernel
theorem d_BlockMaker_shorten_45 : decode M_BlockMaker_shorten.2.1 45 = .ok (.sipush 255, 3) := by decide +kernel
theorem d_BlockMaker_shorten_48 : decode M_BlockMaker_shorten.2.1 48 = .ok (.if_icmp .ge 7, 3) := by decide +kernel
theorem d_BlockMaker_shorten_51 : decode M_BlockMaker_shorten.2.1 51 = .ok (.iconst 1, 1) := by decide +kernel
theorem d_BlockMaker_shorten_52 : decode M_BlockMaker_shorten.2.1 52 = .ok (.goto 4, 3) := by decide +kernel
theorem d_BlockMaker_shorten_55 : decode M_BlockMaker_shorten.2.1 55 = .ok (.iconst 0, 1) := by decide +kernel
theorem d_BlockMaker_shorten_56 : decode M_BlockMaker_shorten.2.1 56 = .ok (.istore 6, 2) := by decide +kernel
theorem d_BlockMaker_shorten_58 : decode M_BlockMaker_shorten.2.1 58 = .ok (.iload 6, 2) := by decide +kernel
theorem d_BlockMaker_shorten_60 : decode M_BlockMaker_shorten.2.1 60 = .ok (.ifCond .eq 10, 3) := by decide +kernel
theorem d_BlockMaker_shorten_63 : decode M_BlockMaker_shorten.2.1 63 = .ok (.iload 4, 2) := by decide +kernel
theorem d_BlockMaker_shorten_65 : decode M_BlockMaker_shorten.2.1 65 = .ok (.iconst 1, 1) := by decide +kernel
theorem d_BlockMaker_shorten_66 : decode M_BlockMaker_shorten.2.1 66 = .ok (.iadd, 1) := by decide +kernel
theorem d_BlockMaker_shorten_67 : decode M_BlockMaker_shorten.2.1 67 = .ok (.goto 4, 3) := by decide +kernel
theorem d_BlockMaker_shorten_70 : decode M_BlockMaker_shorten.2.1 70 = .ok (.iconst 1, 1) := by decide +kernel
theorem d_BlockMaker_shorten_71 : decode M_BlockMaker_shorten.2.1 71 = .ok (.istore 4, 2) := by decide +kernel
theorem d_BlockMaker_shorten_73 : decode M_BlockMaker_shorten.2.1 73 = .ok (.iload 4, 2) := by decide +kernel
theorem d_BlockMaker_shorten_75 : decode M_BlockMaker_shorten.2.1 75 = .ok (.iconst 4, 1) := by decide +kernel
theorem d_BlockMaker_shorten_76 : decode M_BlockMaker_shorten.2.1 76 = .ok (.if_icmp .ge 7, 3) := by decide +kernel
theorem d_BlockMaker_shorten_79 : decode M_BlockMaker_shorten.2.1 79 = .ok (.iconst 1, 1) := by decide +kernel
theorem d_BlockMaker_shorten_80 : decode M_BlockMaker_shorten.2.1 80 = .ok (.goto 14, 3) := by decide +kernel
theorem d_BlockMaker_shorten_83 : decode M_BlockMaker_shorten.2.1 83 = .ok (.iload 4, 2) := by decide +kernel
theorem d_BlockMaker_shorten_85 : decode M_BlockMaker_shorten.2.1 85 = .ok (.iconst 4, 1) := by decide +kernel
theorem d_BlockMaker_shorten_86 : decode M_BlockMaker_shorten.2.1 86 = .ok (.if_icmp .ne 7, 3) := by decide +kernel
theorem d_BlockMaker_shorten_89 : decode M_BlockMaker_shorten.2.1 89 = .ok (.iconst 2, 1) := by decide +kernel
theorem d_BlockMaker_shorten_90 : decode M_BlockMaker_shorten.2.1 90 = .ok (.goto 4, 3) := by decide +kernel
theorem d_BlockMaker_shorten_93 : decode M_BlockMaker_shorten.2.1 93 = .ok (.iconst 0, 1) := by decide +kernel
theorem d_BlockMaker_shorten_94 : decode M_BlockMaker_shorten.2.1 94 = .ok (.istore 7, 2) := by decide +kernel
theorem d_BlockMaker_shorten_96 : decode M_BlockMaker_shorten.2.1 96 = .ok (.aload_n 0, 1) := by decide +kernel
theorem d_BlockMaker_shorten_97 : decode M_BlockMaker_shorten.2.1 97 = .ok (.getfield 62, 3) := by decide +kernel
theorem d_BlockMaker_shorten_100 : decode M_BlockMaker_shorten.2.1 100 = .ok (.iload 7, 2) := by decide +kernel
theorem d_BlockMaker_shorten_102 : decode M_BlockMaker_shorten.2.1 102 = .ok (.iadd, 1) := by decide +kernel
theorem d_BlockMaker_shorten_103 : decode M_BlockMaker_shorten.2.1 103 = .ok (.iload_n 3, 1) := by decide +kernel
theorem d_BlockMaker_shorten_104 : decode M_BlockMaker_shorten.2.1 104 = .ok (.if_icmp .le 6, 3) := by decide +kernel
theorem d_BlockMaker_shorten_107 : decode M_BlockMaker_shorten.2.1 107 = .ok (.iload 5, 2) := by decide +kernel
theorem d_BlockMaker_shorten_109 : decode M_BlockMaker_shorten.2.1 109 = .ok (.ireturn, 1) := by decide +kernel
theorem d_BlockMaker_shorten_110 : decode M_BlockMaker_shorten.2.1 110 = .ok (.iload 4, 2) := by decide +kernel
theorem d_BlockMaker_shorten_112 : decode M_BlockMaker_shorten.2.1 112 = .ok (.iconst 4, 1) := by decide +kernel
theorem d_BlockMaker_shorten_113 : decode M_BlockMaker_shorten.2.1 113 = .ok (.if_icmp .gt 13, 3) := by decide +kernel
theorem d_BlockMaker_shorten_116 : decode M_BlockMaker_shorten.2.1 116 = .ok (.aload_n 0, 1) := by decide +kernel
theorem d_BlockMaker_shorten_117 : decode M_BlockMaker_shorten.2.1 117 = .ok (.aload_n 1, 1) := by decide +kernel
theorem d_BlockMaker_shorten_118 : decode M_BlockMaker_shorten.2.1 118 = .ok (.iload 5, 2) := by decide +kernel
theorem d_BlockMaker_shorten_120 : decode M_BlockMaker_shorten.2.1 120 = .ok (.invokevirtual 68, 3) := by decide +kernel
theorem d_BlockMaker_shorten_123 : decode M_BlockMaker_shorten.2.1 123 = .ok (.invokevirtual 72, 3) := by decide +kernel
theorem d_BlockMaker_shorten_126 : decode M_BlockMaker_shorten.2.1 126 = .ok (.iload 4, 2) := by decide +kernel
theorem d_BlockMaker_shorten_128 : decode M_BlockMaker_shorten.2.1 128 = .ok (.iconst 4, 1) := by decide +kernel
theorem d_BlockMaker_shorten_129 : decode M_BlockMaker_shorten.2.1 129 = .ok (.if_icmp .ne 8, 3) := by decide +kernel
theorem d_BlockMaker_shorten_132 : decode M_BlockMaker_shorten.2.1 132 = .ok (.aload_n 0, 1) := by decide +kernel
theorem d_BlockMaker_shorten_133 : decode M_BlockMaker_shorten.2.1 133 = .ok (.iconst 0, 1) := by decide +kernel
theorem d_BlockMaker_shorten_134 : decode M_BlockMaker_shorten.2.1 134 = .ok (.invokevirtual 72, 3) := by decide +kernel
theorem d_BlockMaker_shorten_137 : decode M_BlockMaker_shorten.2.1 137 = .ok (.iload 4, 2) := by decide +kernel
theorem d_BlockMaker_shorten_139 : decode M_BlockMaker_shorten.2.1 139 = .ok (.iconst 4, 1) := by decide +kernel
theorem d_BlockMaker_shorten_140 : decode M_BlockMaker_shorten.2.1 140 = .ok (.if_icmp .le 25, 3) := by decide +kernel
theorem d_BlockMaker_shorten_143 : decode M_BlockMaker_shorten.2.1 143 = .ok (.aload_n 0, 1) := by decide +kernel
theorem d_BlockMaker_shorten_144 : decode M_BlockMaker_shorten.2.1 144 = .ok (.getfield 62, 3) := by decide +kernel
theorem d_BlockMaker_shorten_147 : decode M_BlockMaker_shorten.2.1 147 = .ok (.ifCond .le 18, 3) := by decide +kernel
theorem d_BlockMaker_shorten_150 : decode M_BlockMaker_shorten.2.1 150 = .ok (.aload_n 0, 1) := by decide +kernel
theorem d_BlockMaker_shorten_151 : decode M_BlockMaker_shorten.2.1 151 = .ok (.getfield 76, 3) := by decide +kernel
theorem d_BlockMaker_shorten_154 : decode M_BlockMaker_shorten.2.1 154 = .ok (.aload_n 0, 1) := by decide +kernel
theorem d_BlockMaker_shorten_155 : decode M_BlockMaker_shorten.2.1 155 = .ok (.getfield 62, 3) := by decide +kernel
theorem d_BlockMaker_shorten_158 : decode M_BlockMaker_shorten.2.1 158 = .ok (.iconst 1, 1) := by decide +kernel
theorem d_BlockMaker_shorten_159 : decode M_BlockMaker_shorten.2.1 159 = .ok (.isub, 1) := by decide +kernel
theorem d_BlockMaker_shorten_160 : decode M_BlockMaker_shorten.2.1 160 = .ok (.dup2, 1) := by decide +kernel
theorem d_BlockMaker_shorten_161 : decode M_BlockMaker_shorten.2.1 161 = .ok (.iaload, 1) := by decide +kernel
theorem d_BlockMaker_shorten_162 : decode M_BlockMaker_shorten.2.1 162 = .ok (.iconst 1, 1) := by decide +kernel
theorem d_BlockMaker_shorten_163 : decode M_BlockMaker_shorten.2.1 163 = .ok (.iadd, 1) := by decide +kernel
theorem d_BlockMaker_shorten_164 : decode M_BlockMaker_shorten.2.1 164 = .ok (.iastore, 1) := by decide +kernel
theorem d_BlockMaker_shorten_165 : decode M_BlockMaker_shorten.2.1 165 = .ok (.iinc 5 1, 3) := by decide +kernel
theorem d_BlockMaker_shorten_168 : decode M_BlockMaker_shorten.2.1 168 = .ok (.goto (-157), 3) := by decide +kernel
theorem d_BlockMaker_shorten_171 : decode M_BlockMaker_shorten.2.1 171 = .ok (.aload_n 1, 1) := by decide +kernel
theorem d_BlockMaker_shorten_172 : decode M_BlockMaker_shorten.2.1 172 = .ok (.getfield 65, 3) := by decide +kernel
theorem d_BlockMaker_shorten_175 : decode M_BlockMaker_shorten.2.1 175 = .ok (.ireturn, 1) := by decide +kernel
theorem d_BlockMaker_sortRotations_0 : decode M_BlockMaker_sortRotations.2.1 0 = .ok (.iconst 0, 1) := by decide +kernel
theorem d_BlockMaker_sortRotations_1 : decode M_BlockMaker_sortRotations.2.1 1 = .ok (.istore_n 2, 1) := by decide +kernel
theorem d_BlockMaker_sortRotations_2 : decode M_BlockMaker_sortRotations.2.1 2 = .ok (.iload_n 2, 1) := by decide +kernel
theorem d_BlockMaker_sortRotations_3 : decode M_BlockMaker_sortRotations.2.1 3 = .ok (.aload_n 1, 1) := by decide +kernel
theorem d_BlockMaker_sortRotations_4 : decode M_BlockMaker_sortRotations.2.1 4 = .ok (.getfield 62, 3) := by decide +kernel
theorem d_BlockMaker_sortRotations_7 : decode M_BlockMaker_sortRotations.2.1 7 = .ok (.if_icmp .ge 83, 3) := by decide +kernel
theorem d_BlockMaker_sortRotations_10 : decode M_BlockMaker_sortRotations.2.1 10 = .ok (.iconst 0, 1) := by decide +kernel
theorem d_BlockMaker_sortRotations_11 : decode M_BlockMaker_sortRotations.2.1 11 = .ok (.istore_n 3, 1) := by decide +kernel
theorem d_BlockMaker_sortRotations_12 : decode M_BlockMaker_sortRotations.2.1 12 = .ok (.iload_n 2, 1) := by decide +kernel
theorem d_BlockMaker_sortRotations_13 : decode M_BlockMaker_sortRotations.2.1 13 = .ok (.istore 4, 2) := by decide +kernel
theorem d_BlockMaker_sortRotations_15 : decode M_BlockMaker_sortRotations.2.1 15 = .ok (.iload_n 3, 1) := by decide +kernel
theorem d_BlockMaker_sortRotations_16 : decode M_BlockMaker_sortRotations.2.1 16 = .ok (.iload 4, 2) := by decide +kernel
theorem d_BlockMaker_sortRotations_18 : decode M_BlockMaker_sortRotations.2.1 18 = .ok (.if_icmp .ge 41, 3) := by decide +kernel
theorem d_BlockMaker_sortRotations_21 : decode M_BlockMaker_sortRotations.2.1 21 = .ok (.iload_n 3, 1) := by decide +kernel
theorem d_BlockMaker_sortRotations_22 : decode M_BlockMaker_sortRotations.2.1 22 = .ok (.iload 4, 2) := by decide +kernel
theorem d_BlockMaker_sortRotations_24 : decode M_BlockMaker_sortRotations.2.1 24 = .ok (.iadd, 1) := by decide +kernel
theorem d_BlockMaker_sortRotations_25 : decode M_BlockMaker_sortRotations.2.1 25 = .ok (.iconst 2, 1) := by decide +kernel
theorem d_BlockMaker_sortRotations_26 : decode M_BlockMaker_sortRotations.2.1 26 = .ok (.idiv, 1) := by decide +kernel
theorem d_BlockMaker_sortRotations_27 : decode M_BlockMaker_sortRotations.2.1 27 = .ok (.istore 5, 2) := by decide +kernel
theorem d_BlockMaker_sortRotations_29 : decode M_BlockMaker_sortRotations.2.1 29 = .ok (.aload_n 1, 1) := by decide +kernel
theorem d_BlockMaker_sortRotations_30 : decode M_BlockMaker_sortRotations.2.1 30 = .ok (.iload_n 2, 1) := by decide +kernel
theorem d_BlockMaker_sortRotations_31 : decode M_BlockMaker_sortRotations.2.1 31 = .ok (.aload_n 0, 1) := by decide +kernel
theorem d_BlockMaker_sortRotations_32 : decode M_BlockMaker_sortRotations.2.1 32 = .ok (.getfield 9, 3) := by decide +kernel
theorem d_BlockMaker_sortRotations_35 : decode M_BlockMaker_sortRotations.2.1 35 = .ok (.iload 5, 2) := by decide +kernel
theorem d_BlockMaker_sortRotations_37 : decode M_BlockMaker_sortRotations.2.1 37 = .ok (.iaload, 1) := by decide +kernel
theorem d_BlockMaker_sortRotations_38 : decode M_BlockMaker_sortRotations.2.1 38 = .ok (.invokestatic 79, 3) := by decide +kernel
theorem d_BlockMaker_sortRotations_41 : decode M_BlockMaker_sortRotations.2.1 41 = .ok (.ifCond .eq 10, 3) := by decide +kernel
theorem d_BlockMaker_sortRotations_44 : decode M_BlockMaker_sortRotations.2.1 44 = .ok (.iload 5, 2) := by decide +kernel
theorem d_BlockMaker_sortRotations_46 : decode M_BlockMaker_sortRotations.2.1 46 = .ok (.istore 4, 2) := by decide +kernel
theorem d_BlockMaker_sortRotations_48 : decode M_BlockMaker_sortRotations.2.1 48 = .ok (.goto 8, 3) := by decide +kernel
theorem d_BlockMaker_sortRotations_51 : decode M_BlockMaker_sortRotations.2.1 51 = .ok (.iload 5, 2) := by decide +kernel
theorem d_BlockMaker_sortRotations_53 : decode M_BlockMaker_sortRotations.2.1 53 = .ok (.iconst 1, 1) := by decide +kernel
theorem d_BlockMaker_sortRotations_54 : decode M_BlockMaker_sortRotations.2.1 54 = .ok (.iadd, 1) := by decide +kernel
theorem d_BlockMaker_sortRotations_55 : decode M_BlockMaker_sortRotations.2.1 55 = .ok (.istore_n 3, 1) := by decide +kernel
theorem d_BlockMaker_sortRotations_56 : decode M_BlockMaker_sortRotations.2.1 56 = .ok (.goto (-41), 3) := by decide +kernel
theorem d_BlockMaker_sortRotations_59 : decode M_BlockMaker_sortRotations.2.1 59 = .ok (.aload_n 0, 1) := by decide +kernel
theorem d_BlockMaker_sortRotations_60 : decode M_BlockMaker_sortRotations.2.1 60 = .ok (.getfield 9, 3) := by decide +kernel
theorem d_BlockMaker_sortRotations_63 : decode M_BlockMaker_sortRotations.2.1 63 = .ok (.iload_n 3, 1) := by decide +kernel
theorem d_BlockMaker_sortRotations_64 : decode M_BlockMaker_sortRotations.2.1 64 = .ok (.aload_n 0, 1) := by decide +kernel
theorem d_BlockMaker_sortRotations_65 : decode M_BlockMaker_sortRotations.2.1 65 = .ok (.getfield 9, 3) := by decide +kernel
theorem d_BlockMaker_sortRotations_68 : decode M_BlockMaker_sortRotations.2.1 68 = .ok (.iload_n 3, 1) := by decide +kernel
theorem d_BlockMaker_sortRotations_69 : decode M_BlockMaker_sortRotations.2.1 69 = .ok (.iconst 1, 1) := by decide +kernel
theorem d_BlockMaker_sortRotations_70 : decode M_BlockMaker_sortRotations.2.1 70 = .ok (.iadd, 1) := by decide +kernel
theorem d_BlockMaker_sortRotations_71 : decode M_BlockMaker_sortRotations.2.1 71 = .ok (.iload_n 2, 1) := by decide +kernel
theorem d_BlockMaker_sortRotations_72 : decode M_BlockMaker_sortRotations.2.1 72 = .ok (.iload_n 3, 1) := by decide +kernel
theorem d_BlockMaker_sortRotations_73 : decode M_BlockMaker_sortRotations.2.1 73 = .ok (.isub, 1) := by decide +kernel
theorem d_BlockMaker_sortRotations_74 : decode M_BlockMaker_sortRotations.2.1 74 = .ok (.invokestatic 83, 3) := by decide +kernel
theorem d_BlockMaker_sortRotations_77 : decode M_BlockMaker_sortRotations.2.1 77 = .ok (.aload_n 0, 1) := by decide +kernel
theorem d_BlockMaker_sortRotations_78 : decode M_BlockMaker_sortRotations.2.1 78 = .ok (.getfield 9, 3) := by decide +kernel
theorem d_BlockMaker_sortRotations_81 : decode M_BlockMaker_sortRotations.2.1 81 = .ok (.iload_n 3, 1) := by decide +kernel
theorem d_BlockMaker_sortRotations_82 : decode M_BlockMaker_sortRotations.2.1 82 = .ok (.iload_n 2, 1) := by decide +kernel
theorem d_BlockMaker_sortRotations_83 : decode M_BlockMaker_sortRotations.2.1 83 = .ok (.iastore, 1) := by decide +kernel
theorem d_BlockMaker_sortRotations_84 : decode M_BlockMaker_sortRotations.2.1 84 = .ok (.iinc 2 1, 3) := by decide +kernel
theorem d_BlockMaker_sortRotations_87 : decode M_BlockMaker_sortRotations.2.1 87 = .ok (.goto (-85), 3) := by decide +kernel
theorem d_BlockMaker_sortRotations_90 : decode M_BlockMaker_sortRotations.2.1 90 = .ok (.return_, 1) := by decide +kernel
theorem d_BlockMaker_isBefore_0 : decode M_BlockMaker_isBefore.2.1 0 = .ok (.iconst 0, 1) := by decide +kernel
theorem d_BlockMaker_isBefore_1 : decode M_BlockMaker_isBefore.2.1 1 = .ok (.istore_n 3, 1) := by decide +kernel
theorem d_BlockMaker_isBefore_2 : decode M_BlockMaker_isBefore.2.1 2 = .ok (.iload_n 3, 1) := by decide +kernel
theorem d_BlockMaker_isBefore_3 : decode M_BlockMaker_isBefore.2.1 3 = .ok (.aload_n 0, 1) := by decide +kernel
theorem d_BlockMaker_isBefore_4 : decode M_BlockMaker_isBefore.2.1 4 = .ok (.getfield 62, 3) := by decide +kernel
theorem d_BlockMaker_isBefore_7 : decode M_BlockMaker_isBefore.2.1 7 = .ok (.if_icmp .ge 59, 3) := by decide +kernel
theorem d_BlockMaker_isBefore_10 : decode M_BlockMaker_isBefore.2.1 10 = .ok (.aload_n 0, 1) := by decide +kernel
theorem d_BlockMaker_isBefore_11 : decode M_BlockMaker_isBefore.2.1 11 = .ok (.getfield 76, 3) := by decide +kernel
theorem d_BlockMaker_isBefore_14 : decode M_BlockMaker_isBefore.2.1 14 = .ok (.iload_n 1, 1) := by decide +kernel
theorem d_BlockMaker_isBefore_15 : decode M_BlockMaker_isBefore.2.1 15 = .ok (.iload_n 3, 1) := by decide +kernel
theorem d_BlockMaker_isBefore_16 : decode M_BlockMaker_isBefore.2.1 16 = .ok (.iadd, 1) := by decide +kernel
theorem d_BlockMaker_isBefore_17 : decode M_BlockMaker_isBefore.2.1 17 = .ok (.aload_n 0, 1) := by decide +kernel
theorem d_BlockMaker_isBefore_18 : decode M_BlockMaker_isBefore.2.1 18 = .ok (.getfield 62, 3) := by decide +kernel
theorem d_BlockMaker_isBefore_21 : decode M_BlockMaker_isBefore.2.1 21 = .ok (.irem, 1) := by decide +kernel
theorem d_BlockMaker_isBefore_22 : decode M_BlockMaker_isBefore.2.1 22 = .ok (.iaload, 1) := by decide +kernel
theorem d_BlockMaker_isBefore_23 : decode M_BlockMaker_isBefore.2.1 23 = .ok (.istore 4, 2) := by decide +kernel
theorem d_BlockMaker_isBefore_25 : decode M_BlockMaker_isBefore.2.1 25 = .ok (.aload_n 0, 1) := by decide +kernel
theorem d_BlockMaker_isBefore_26 : decode M_BlockMaker_isBefore.2.1 26 = .ok (.getfield 76, 3) := by decide +kernel
theorem d_BlockMaker_isBefore_29 : decode M_BlockMaker_isBefore.2.1 29 = .ok (.iload_n 2, 1) := by decide +kernel
theorem d_BlockMaker_isBefore_30 : decode M_BlockMaker_isBefore.2.1 30 = .ok (.iload_n 3, 1) := by decide +kernel
theorem d_BlockMaker_isBefore_31 : decode M_BlockMaker_isBefore.2.1 31 = .ok (.iadd, 1) := by decide +kernel
theorem d_BlockMaker_isBefore_32 : decode M_BlockMaker_isBefore.2.1 32 = .ok (.aload_n 0, 1) := by decide +kernel
theorem d_BlockMaker_isBefore_33 : decode M_BlockMaker_isBefore.2.1 33 = .ok (.getfield 62, 3) := by decide +kernel
theorem d_BlockMaker_isBefore_36 : decode M_BlockMaker_isBefore.2.1 36 = .ok (.irem, 1) := by decide +kernel
theorem d_BlockMaker_isBefore_37 : decode M_BlockMaker_isBefore.2.1 37 = .ok (.iaload, 1) := by decide +kernel
theorem d_BlockMaker_isBefore_38 : decode M_BlockMaker_isBefore.2.1 38 = .ok (.istore 5, 2) := by decide +kernel
theorem d_BlockMaker_isBefore_40 : decode M_BlockMaker_isBefore.2.1 40 = .ok (.iload 4, 2) := by decide +kernel
theorem d_BlockMaker_isBefore_42 : decode M_BlockMaker_isBefore.2.1 42 = .ok (.iload 5, 2) := by decide +kernel
theorem d_BlockMaker_isBefore_44 : decode M_BlockMaker_isBefore.2.1 44 = .ok (.if_icmp .eq 16, 3) := by decide +kernel
theorem d_BlockMaker_isBefore_47 : decode M_BlockMaker_isBefore.2.1 47 = .ok (.iload 4, 2) := by decide +kernel
theorem d_BlockMaker_isBefore_49 : decode M_BlockMaker_isBefore.2.1 49 = .ok (.iload 5, 2) := by decide +kernel
theorem d_BlockMaker_isBefore_51 : decode M_BlockMaker_isBefore.2.1 51 = .ok (.if_icmp .ge 7, 3) := by decide +kernel
theorem d_BlockMaker_isBefore_54 : decode M_BlockMaker_isBefore.2.1 54 = .ok (.iconst 1, 1) := by decide +kernel
theorem d_BlockMaker_isBefore_55 : decode M_BlockMaker_isBefore.2.1 55 = .ok (.goto 4, 3) := by decide +kernel
theorem d_BlockMaker_isBefore_58 : decode M_BlockMaker_isBefore.2.1 58 = .ok (.iconst 0, 1) := by decide +kernel
theorem d_BlockMaker_isBefore_59 : decode M_BlockMaker_isBefore.2.1 59 = .ok (.ireturn, 1) := by decide +kernel
theorem d_BlockMaker_isBefore_60 : decode M_BlockMaker_isBefore.2.1 60 = .ok (.iinc 3 1, 3) := by decide +kernel
theorem d_BlockMaker_isBefore_63 : decode M_BlockMaker_isBefore.2.1 63 = .ok (.goto (-61), 3) := by decide +kernel
theorem d_BlockMaker_isBefore_66 : decode M_BlockMaker_isBefore.2.1 66 = .ok (.iconst 0, 1) := by decide +kernel
theorem d_BlockMaker_isBefore_67 : decode M_BlockMaker_isBefore.2.1 67 = .ok (.ireturn, 1) := by decide +kernel
theorem d_BlockMaker_readOrder_0 : decode M_BlockMaker_readOrder.2.1 0 = .ok (.iconst 0, 1) := by decide +kernel
theorem d_BlockMaker_readOrder_1 : decode M_BlockMaker_readOrder.2.1 1 = .ok (.istore_n 2, 1) := by decide +kernel
theorem d_BlockMaker_readOrder_2 : decode M_BlockMaker_readOrder.2.1 2 = .ok (.iload_n 2, 1) := by decide +kernel
theorem d_BlockMaker_readOrder_3 : decode M_BlockMaker_readOrder.2.1 3 = .ok (.aload_n 1, 1) := by decide +kernel
theorem d_BlockMaker_readOrder_4 : decode M_BlockMaker_readOrder.2.1 4 = .ok (.getfield 62, 3) := by decide +kernel
theorem d_BlockMaker_readOrder_7 : decode M_BlockMaker_readOrder.2.1 7 = .ok (.if_icmp .ge 52, 3) := by decide +kernel
theorem d_BlockMaker_readOrder_10 : decode M_BlockMaker_readOrder.2.1 10 = .ok (.aload_n 0, 1) := by decide +kernel
theorem d_BlockMaker_readOrder_11 : decode M_BlockMaker_readOrder.2.1 11 = .ok (.getfield 9, 3) := by decide +kernel
theorem d_BlockMaker_readOrder_14 : decode M_BlockMaker_readOrder.2.1 14 = .ok (.iload_n 2, 1) := by decide +kernel
theorem d_BlockMaker_readOrder_15 : decode M_BlockMaker_readOrder.2.1 15 = .ok (.iaload, 1) := by decide +kernel
theorem d_BlockMaker_readOrder_16 : decode M_BlockMaker_readOrder.2.1 16 = .ok (.istore_n 3, 1) := by decide +kernel
theorem d_BlockMaker_readOrder_17 : decode M_BlockMaker_readOrder.2.1 17 = .ok (.iload_n 3, 1) := by decide +kernel
theorem d_BlockMaker_readOrder_18 : decode M_BlockMaker_readOrder.2.1 18 = .ok (.ifCond .ne 8, 3) := by decide +kernel
theorem d_BlockMaker_readOrder_21 : decode M_BlockMaker_readOrder.2.1 21 = .ok (.aload_n 1, 1) := by decide +kernel
theorem d_BlockMaker_readOrder_22 : decode M_BlockMaker_readOrder.2.1 22 = .ok (.iload_n 2, 1) := by decide +kernel
theorem d_BlockMaker_readOrder_23 : decode M_BlockMaker_readOrder.2.1 23 = .ok (.putfield 89, 3) := by decide +kernel
theorem d_BlockMaker_readOrder_26 : decode M_BlockMaker_readOrder.2.1 26 = .ok (.aload_n 1, 1) := by decide +kernel
theorem d_BlockMaker_readOrder_27 : decode M_BlockMaker_readOrder.2.1 27 = .ok (.getfield 92, 3) := by decide +kernel
theorem d_BlockMaker_readOrder_30 : decode M_BlockMaker_readOrder.2.1 30 = .ok (.iload_n 2, 1) := by decide +kernel
theorem d_BlockMaker_readOrder_31 : decode M_BlockMaker_readOrder.2.1 31 = .ok (.aload_n 1, 1) := by decide +kernel
theorem d_BlockMaker_readOrder_32 : decode M_BlockMaker_readOrder.2.1 32 = .ok (.getfield 76, 3) := by decide +kernel
theorem d_BlockMaker_readOrder_35 : decode M_BlockMaker_readOrder.2.1 35 = .ok (.iload_n 3, 1) := by decide +kernel
theorem d_BlockMaker_readOrder_36 : decode M_BlockMaker_readOrder.2.1 36 = .ok (.ifCond .ne 12, 3) := by decide +kernel
theorem d_BlockMaker_readOrder_39 : decode M_BlockMaker_readOrder.2.1 39 = .ok (.aload_n 1, 1) := by decide +kernel
theorem d_BlockMaker_readOrder_40 : decode M_BlockMaker_readOrder.2.1 40 = .ok (.getfield 62, 3) := by decide +kernel
theorem d_BlockMaker_readOrder_43 : decode M_BlockMaker_readOrder.2.1 43 = .ok (.iconst 1, 1) := by decide +kernel
theorem d_BlockMaker_readOrder_44 : decode M_BlockMaker_readOrder.2.1 44 = .ok (.isub, 1) := by decide +kernel
theorem d_BlockMaker_readOrder_45 : decode M_BlockMaker_readOrder.2.1 45 = .ok (.goto 6, 3) := by decide +kernel
theorem d_BlockMaker_readOrder_48 : decode M_BlockMaker_readOrder.2.1 48 = .ok (.iload_n 3, 1) := by decide +kernel
theorem d_BlockMaker_readOrder_49 : decode M_BlockMaker_readOrder.2.1 49 = .ok (.iconst 1, 1) := by decide +kernel
theorem d_BlockMaker_readOrder_50 : decode M_BlockMaker_readOrder.2.1 50 = .ok (.isub, 1) := by decide +kernel
theorem d_BlockMaker_readOrder_51 : decode M_BlockMaker_readOrder.2.1 51 = .ok (.iaload, 1) := by decide +kernel
theorem d_BlockMaker_readOrder_52 : decode M_BlockMaker_readOrder.2.1 52 = .ok (.iastore, 1) := by decide +kernel
theorem d_BlockMaker_readOrder_53 : decode M_BlockMaker_readOrder.2.1 53 = .ok (.iinc 2 1, 3) := by decide +kernel
theorem d_BlockMaker_readOrder_56 : decode M_BlockMaker_readOrder.2.1 56 = .ok (.goto (-54), 3) := by decide +kernel
theorem d_BlockMaker_readOrder_59 : decode M_BlockMaker_readOrder.2.1 59 = .ok (.return_, 1) := by decide +kernel
theorem d_BlockMaker_listKinds_0 : decode M_BlockMaker_listKinds.2.1 0 = .ok (.aload_n 0, 1) := by decide +kernel
theorem d_BlockMaker_listKinds_1 : decode M_BlockMaker_listKinds.2.1 1 = .ok (.getfield 15, 3) := by decide +kernel
theorem d_BlockMaker_listKinds_4 : decode M_BlockMaker_listKinds.2.1 4 = .ok (.iconst 0, 1) := by decide +kernel
theorem d_BlockMaker_listKinds_5 : decode M_BlockMaker_listKinds.2.1 5 = .ok (.invokestatic 95, 3) := by decide +kernel
theorem d_BlockMaker_listKinds_8 : decode M_BlockMaker_listKinds.2.1 8 = .ok (.iconst 0, 1) := by decide +kernel
theorem d_BlockMaker_listKinds_9 : decode M_BlockMaker_listKinds.2.1 9 = .ok (.istore_n 2, 1) := by decide +kernel
theorem d_BlockMaker_listKinds_10 : decode M_BlockMaker_listKinds.2.1 10 = .ok (.iload_n 2, 1) := by decide +kernel
theorem d_BlockMaker_listKinds_11 : decode M_BlockMaker_listKinds.2.1 11 = .ok (.aload_n 1, 1) := by decide +kernel
theorem d_BlockMaker_listKinds_12 : decode M_BlockMaker_listKinds.2.1 12 = .ok (.getfield 62, 3) := by decide +kernel
theorem d_BlockMaker_listKinds_15 : decode M_BlockMaker_listKinds.2.1 15 = .ok (.if_icmp .ge 21, 3) := by decide +kernel
theorem d_BlockMaker_listKinds_18 : decode M_BlockMaker_listKinds.2.1 18 = .ok (.aload_n 0, 1) := by decide +kernel
theorem d_BlockMaker_listKinds_19 : decode M_BlockMaker_listKinds.2.1 19 = .ok (.getfield 15, 3) := by decide +kernel
theorem d_BlockMaker_listKinds_22 : decode M_BlockMaker_listKinds.2.1 22 = .ok (.aload_n 1, 1) := by decide +kernel
theorem d_BlockMaker_listKinds_23 : decode M_BlockMaker_listKinds.2.1 23 = .ok (.getfield 92, 3) := by decide +kernel
theorem d_BlockMaker_listKinds_26 : decode M_BlockMaker_listKinds.2.1 26 = .ok (.iload_n 2, 1) := by decide +kernel
theorem d_BlockMaker_listKinds_27 : decode M_BlockMaker_listKinds.2.1 27 = .ok (.iaload, 1) := by decide +kernel
theorem d_BlockMaker_listKinds_28 : decode M_BlockMaker_listKinds.2.1 28 = .ok (.iconst 1, 1) := by decide +kernel
theorem d_BlockMaker_listKinds_29 : decode M_BlockMaker_listKinds.2.1 29 = .ok (.iastore, 1) := by decide +kernel
theorem d_BlockMaker_listKinds_30 : decode M_BlockMaker_listKinds.2.1 30 = .ok (.iinc 2 1, 3) := by decide +kernel
theorem d_BlockMaker_listKinds_33 : decode M_BlockMaker_listKinds.2.1 33 = .ok (.goto (-23), 3) := by decide +kernel
theorem d_BlockMaker_listKinds_36 : decode M_BlockMaker_listKinds.2.1 36 = .ok (.aload_n 1, 1) := by decide +kernel
theorem d_BlockMaker_listKinds_37 : decode M_BlockMaker_listKinds.2.1 37 = .ok (.iconst 0, 1) := by decide +kernel
theorem d_BlockMaker_listKinds_38 : decode M_BlockMaker_listKinds.2.1 38 = .ok (.putfield 101, 3) := by decide +kernel
theorem d_BlockMaker_listKinds_41 : decode M_BlockMaker_listKinds.2.1 41 = .ok (.iconst 0, 1) := by decide +kernel
theorem d_BlockMaker_listKinds_42 : decode M_BlockMaker_listKinds.2.1 42 = .ok (.istore_n 2, 1) := by decide +kernel
theorem d_BlockMaker_listKinds_43 : decode M_BlockMaker_listKinds.2.1 43 = .ok (.iload_n 2, 1) := by decide +kernel
theorem d_BlockMaker_listKinds_44 : decode M_BlockMaker_listKinds.2.1 44 = .ok (.sipush 256, 3) := by decide +kernel
theorem d_BlockMaker_listKinds_47 : decode M_BlockMaker_listKinds.2.1 47 = .ok (.if_icmp .ge 24, 3) := by decide +kernel
theorem d_BlockMaker_listKinds_50 : decode M_BlockMaker_listKinds.2.1 50 = .ok (.aload_n 0, 1) := by decide +kernel
theorem d_BlockMaker_listKinds_51 : decode M_BlockMaker_listKinds.2.1 51 = .ok (.getfield 15, 3) := by decide +kernel
theorem d_BlockMaker_listKinds_54 : decode M_BlockMaker_listKinds.2.1 54 = .ok (.iload_n 2, 1) := by decide +kernel
theorem d_BlockMaker_listKinds_55 : decode M_BlockMaker_listKinds.2.1 55 = .ok (.iaload, 1) := by decide +kernel
theorem d_BlockMaker_listKinds_56 : decode M_BlockMaker_listKinds.2.1 56 = .ok (.iconst 1, 1) := by decide +kernel
theorem d_BlockMaker_listKinds_57 : decode M_BlockMaker_listKinds.2.1 57 = .ok (.if_icmp .ne 8, 3) := by decide +kernel
theorem d_BlockMaker_listKinds_60 : decode M_BlockMaker_listKinds.2.1 60 = .ok (.aload_n 1, 1) := by decide +kernel
theorem d_BlockMaker_listKinds_61 : decode M_BlockMaker_listKinds.2.1 61 = .ok (.iload_n 2, 1) := by decide +kernel
theorem d_BlockMaker_listKinds_62 : decode M_BlockMaker_listKinds.2.1 62 = .ok (.invokevirtual 104, 3) := by decide +kernel
theorem d_BlockMaker_listKinds_65 : decode M_BlockMaker_listKinds.2.1 65 = .ok (.iinc 2 1, 3) := by decide +kernel
theorem d_BlockMaker_listKinds_68 : decode M_BlockMaker_listKinds.2.1 68 = .ok (.goto (-25), 3) := by decide +kernel
theorem d_BlockMaker_listKinds_71 : decode M_BlockMaker_listKinds.2.1 71 = .ok (.return_, 1) := by decide +kernel
theorem d_BlockMaker_findSymbols_0 : decode M_BlockMaker_findSymbols.2.1 0 = .ok (.aload_n 0, 1) := by decide +kernel
theorem d_BlockMaker_findSymbols_1 : decode M_BlockMaker_findSymbols.2.1 1 = .ok (.getfield 21, 3) := by decide +kernel
theorem d_BlockMaker_findSymbols_4 : decode M_BlockMaker_findSymbols.2.1 4 = .ok (.aload_n 1, 1) := by decide +kernel
theorem d_BlockMaker_findSymbols_5 : decode M_BlockMaker_findSymbols.2.1 5 = .ok (.getfield 107, 3) := by decide +kernel
theorem d_BlockMaker_findSymbols_8 : decode M_BlockMaker_findSymbols.2.1 8 = .ok (.aload_n 1, 1) := by decide +kernel
theorem d_BlockMaker_findSymbols_9 : decode M_BlockMaker_findSymbols.2.1 9 = .ok (.getfield 101, 3) := by decide +kernel
theorem d_BlockMaker_findSymbols_12 : decode M_BlockMaker_findSymbols.2.1 12 = .ok (.invokevirtual 110, 3) := by decide +kernel
theorem d_BlockMaker_findSymbols_15 : decode M_BlockMaker_findSymbols.2.1 15 = .ok (.aload_n 1, 1) := by decide +kernel
theorem d_BlockMaker_findSymbols_16 : decode M_BlockMaker_findSymbols.2.1 16 = .ok (.iconst 0, 1) := by decide +kernel
theorem d_BlockMaker_findSymbols_17 : decode M_BlockMaker_findSymbols.2.1 17 = .ok (.putfield 113, 3) := by decide +kernel
theorem d_BlockMaker_findSymbols_20 : decode M_BlockMaker_findSymbols.2.1 20 = .ok (.iconst 0, 1) := by decide +kernel
theorem d_BlockMaker_findSymbols_21 : decode M_BlockMaker_findSymbols.2.1 21 = .ok (.istore_n 2, 1) := by decide +kernel
theorem d_BlockMaker_findSymbols_22 : decode M_BlockMaker_findSymbols.2.1 22 = .ok (.iconst 0, 1) := by decide +kernel
theorem d_BlockMaker_findSymbols_23 : decode M_BlockMaker_findSymbols.2.1 23 = .ok (.istore_n 3, 1) := by decide +kernel
theorem d_BlockMaker_findSymbols_24 : decode M_BlockMaker_findSymbols.2.1 24 = .ok (.iload_n 3, 1) := by decide +kernel
theorem d_BlockMaker_findSymbols_25 : decode M_BlockMaker_findSymbols.2.1 25 = .ok (.aload_n 1, 1) := by decide +kernel
theorem d_BlockMaker_findSymbols_26 : decode M_BlockMaker_findSymbols.2.1 26 = .ok (.getfield 62, 3) := by decide +kernel
theorem d_BlockMaker_findSymbols_29 : decode M_BlockMaker_findSymbols.2.1 29 = .ok (.if_icmp .ge 50, 3) := by decide +kernel
theorem d_BlockMaker_findSymbols_32 : decode M_BlockMaker_findSymbols.2.1 32 = .ok (.aload_n 0, 1) := by decide +kernel
theorem d_BlockMaker_findSymbols_33 : decode M_BlockMaker_findSymbols.2.1 33 = .ok (.getfield 21, 3) := by decide +kernel
theorem d_BlockMaker_findSymbols_36 : decode M_BlockMaker_findSymbols.2.1 36 = .ok (.aload_n 1, 1) := by decide +kernel
theorem d_BlockMaker_findSymbols_37 : decode M_BlockMaker_findSymbols.2.1 37 = .ok (.getfield 92, 3) := by decide +kernel
theorem d_BlockMaker_findSymbols_40 : decode M_BlockMaker_findSymbols.2.1 40 = .ok (.iload_n 3, 1) := by decide +kernel
theorem d_BlockMaker_findSymbols_41 : decode M_BlockMaker_findSymbols.2.1 41 = .ok (.iaload, 1) := by decide +kernel
theorem d_BlockMaker_findSymbols_42 : decode M_BlockMaker_findSymbols.2.1 42 = .ok (.invokevirtual 116, 3) := by decide +kernel
theorem d_BlockMaker_findSymbols_45 : decode M_BlockMaker_findSymbols.2.1 45 = .ok (.istore 4, 2) := by decide +kernel
theorem d_BlockMaker_findSymbols_47 : decode M_BlockMaker_findSymbols.2.1 47 = .ok (.iload 4, 2) := by decide +kernel
theorem d_BlockMaker_findSymbols_49 : decode M_BlockMaker_findSymbols.2.1 49 = .ok (.ifCond .ne 9, 3) := by decide +kernel
theorem d_BlockMaker_findSymbols_52 : decode M_BlockMaker_findSymbols.2.1 52 = .ok (.iinc 2 1, 3) := by decide +kernel
theorem d_BlockMaker_findSymbols_55 : decode M_BlockMaker_findSymbols.2.1 55 = .ok (.goto 18, 3) := by decide +kernel
theorem d_BlockMaker_findSymbols_58 : decode M_BlockMaker_findSymbols.2.1 58 = .ok (.aload_n 1, 1) := by decide +kernel
theorem d_BlockMaker_findSymbols_59 : decode M_BlockMaker_findSymbols.2.1 59 = .ok (.iload_n 2, 1) := by decide +kernel
theorem d_BlockMaker_findSymbols_60 : decode M_BlockMaker_findSymbols.2.1 60 = .ok (.invokestatic 119, 3) := by decide +kernel
theorem d_BlockMaker_findSymbols_63 : decode M_BlockMaker_findSymbols.2.1 63 = .ok (.iconst 0, 1) := by decide +kernel
theorem d_BlockMaker_findSymbols_64 : decode M_BlockMaker_findSymbols.2.1 64 = .ok (.istore_n 2, 1) := by decide +kernel
theorem d_BlockMaker_findSymbols_65 : decode M_BlockMaker_findSymbols.2.1 65 = .ok (.aload_n 1, 1) := by decide +kernel
theorem d_BlockMaker_findSymbols_66 : decode M_BlockMaker_findSymbols.2.1 66 = .ok (.iload 4, 2) := by decide +kernel
theorem d_BlockMaker_findSymbols_68 : decode M_BlockMaker_findSymbols.2.1 68 = .ok (.iconst 1, 1) := by decide +kernel
theorem d_BlockMaker_findSymbols_69 : decode M_BlockMaker_findSymbols.2.1 69 = .ok (.iadd, 1) := by decide +kernel
theorem d_BlockMaker_findSymbols_70 : decode M_BlockMaker_findSymbols.2.1 70 = .ok (.invokevirtual 123, 3) := by decide +kernel
theorem d_BlockMaker_findSymbols_73 : decode M_BlockMaker_findSymbols.2.1 73 = .ok (.iinc 3 1, 3) := by decide +kernel
theorem d_BlockMaker_findSymbols_76 : decode M_BlockMaker_findSymbols.2.1 76 = .ok (.goto (-52), 3) := by decide +kernel
theorem d_BlockMaker_findSymbols_79 : decode M_BlockMaker_findSymbols.2.1 79 = .ok (.aload_n 1, 1) := by decide +kernel
theorem d_BlockMaker_findSymbols_80 : decode M_BlockMaker_findSymbols.2.1 80 = .ok (.iload_n 2, 1) := by decide +kernel
theorem d_BlockMaker_findSymbols_81 : decode M_BlockMaker_findSymbols.2.1 81 = .ok (.invokestatic 119, 3) := by decide +kernel
theorem d_BlockMaker_findSymbols_84 : decode M_BlockMaker_findSymbols.2.1 84 = .ok (.aload_n 1, 1) := by decide +kernel
theorem d_BlockMaker_findSymbols_85 : decode M_BlockMaker_findSymbols.2.1 85 = .ok (.aload_n 1, 1) := by decide +kernel
theorem d_BlockMaker_findSymbols_86 : decode M_BlockMaker_findSymbols.2.1 86 = .ok (.invokevirtual 126, 3) := by decide +kernel
theorem d_BlockMaker_findSymbols_89 : decode M_BlockMaker_findSymbols.2.1 89 = .ok (.invokevirtual 123, 3) := by decide +kernel
theorem d_BlockMaker_findSymbols_92 : decode M_BlockMaker_findSymbols.2.1 92 = .ok (.return_, 1) := by decide +kernel
theorem d_BlockMaker_addRun_0 : decode M_BlockMaker_addRun.2.1 0 = .ok (.iload_n 1, 1) := by decide +kernel
theorem d_BlockMaker_addRun_1 : decode M_BlockMaker_addRun.2.1 1 = .ok (.istore_n 2, 1) := by decide +kernel
theorem d_BlockMaker_addRun_2 : decode M_BlockMaker_addRun.2.1 2 = .ok (.iload_n 2, 1) := by decide +kernel
theorem d_BlockMaker_addRun_3 : decode M_BlockMaker_addRun.2.1 3 = .ok (.ifCond .le 28, 3) := by decide +kernel
theorem d_BlockMaker_addRun_6 : decode M_BlockMaker_addRun.2.1 6 = .ok (.aload_n 0, 1) := by decide +kernel
theorem d_BlockMaker_addRun_7 : decode M_BlockMaker_addRun.2.1 7 = .ok (.iload_n 2, 1) := by decide +kernel
theorem d_BlockMaker_addRun_8 : decode M_BlockMaker_addRun.2.1 8 = .ok (.iconst 2, 1) := by decide +kernel
theorem d_BlockMaker_addRun_9 : decode M_BlockMaker_addRun.2.1 9 = .ok (.irem, 1) := by decide +kernel
theorem d_BlockMaker_addRun_10 : decode M_BlockMaker_addRun.2.1 10 = .ok (.iconst 1, 1) := by decide +kernel
theorem d_BlockMaker_addRun_11 : decode M_BlockMaker_addRun.2.1 11 = .ok (.if_icmp .ne 7, 3) := by decide +kernel
theorem d_BlockMaker_addRun_14 : decode M_BlockMaker_addRun.2.1 14 = .ok (.iconst 0, 1) := by decide +kernel
theorem d_BlockMaker_addRun_15 : decode M_BlockMaker_addRun.2.1 15 = .ok (.goto 4, 3) := by decide +kernel
theorem d_BlockMaker_addRun_18 : decode M_BlockMaker_addRun.2.1 18 = .ok (.iconst 1, 1) := by decide +kernel
theorem d_BlockMaker_addRun_19 : decode M_BlockMaker_addRun.2.1 19 = .ok (.invokevirtual 123, 3) := by decide +kernel
theorem d_BlockMaker_addRun_22 : decode M_BlockMaker_addRun.2.1 22 = .ok (.iload_n 2, 1) := by decide +kernel
theorem d_BlockMaker_addRun_23 : decode M_BlockMaker_addRun.2.1 23 = .ok (.iconst 1, 1) := by decide +kernel
theorem d_BlockMaker_addRun_24 : decode M_BlockMaker_addRun.2.1 24 = .ok (.isub, 1) := by decide +kernel
theorem d_BlockMaker_addRun_25 : decode M_BlockMaker_addRun.2.1 25 = .ok (.iconst 2, 1) := by decide +kernel
theorem d_BlockMaker_addRun_26 : decode M_BlockMaker_addRun.2.1 26 = .ok (.idiv, 1) := by decide +kernel
theorem d_BlockMaker_addRun_27 : decode M_BlockMaker_addRun.2.1 27 = .ok (.istore_n 2, 1) := by decide +kernel
theorem d_BlockMaker_addRun_28 : decode M_BlockMaker_addRun.2.1 28 = .ok (.goto (-26), 3) := by decide +kernel
theorem d_BlockMaker_addRun_31 : decode M_BlockMaker_addRun.2.1 31 = .ok (.return_, 1) := by decide +kernel
theorem d_BlockReader_init_0 : decode M_BlockReader_init.2.1 0 = .ok (.aload_n 0, 1) := by decide +kernel
theorem d_BlockReader_init_1 : decode M_BlockReader_init.2.1 1 = .ok (.invokespecial 3, 3) := by decide +kernel
theorem d_BlockReader_init_4 : decode M_BlockReader_init.2.1 4 = .ok (.aload_n 0, 1) := by decide +kernel
theorem d_BlockReader_init_5 : decode M_BlockReader_init.2.1 5 = .ok (.new 9, 3) := by decide +kernel
theorem d_BlockReader_init_8 : decode M_BlockReader_init.2.1 8 = .ok (.dup, 1) := by decide +kernel
theorem d_BlockReader_init_9 : decode M_BlockReader_init.2.1 9 = .ok (.invokespecial 11, 3) := by decide +kernel
theorem d_BlockReader_init_12 : decode M_BlockReader_init.2.1 12 = .ok (.putfield 12, 3) := by decide +kernel
theorem d_BlockReader_init_15 : decode M_BlockReader_init.2.1 15 = .ok (.aload_n 0, 1) := by decide +kernel
theorem d_BlockReader_init_16 : decode M_BlockReader_init.2.1 16 = .ok (.iconst 4, 1) := by decide +kernel
theorem d_BlockReader_init_17 : decode M_BlockReader_init.2.1 17 = .ok (.anewarray 18, 3) := by decide +kernel
theorem d_BlockReader_init_20 : decode M_BlockReader_init.2.1 20 = .ok (.putfield 20, 3) := by decide +kernel
theorem d_BlockReader_init_23 : decode M_BlockReader_init.2.1 23 = .ok (.aload_n 0, 1) := by decide +kernel
theorem d_BlockReader_init_24 : decode M_BlockReader_init.2.1 24 = .ok (.bipush 64, 2) := by decide +kernel
theorem d_BlockReader_init_26 : decode M_BlockReader_init.2.1 26 = .ok (.newarray .int, 2) := by decide +kernel
theorem d_BlockReader_init_28 : decode M_BlockReader_init.2.1 28 = .ok (.putfield 24, 3) := by decide +kernel
theorem d_BlockReader_init_31 : decode M_BlockReader_init.2.1 31 = .ok (.aload_n 0, 1) := by decide +kernel
theorem d_BlockReader_init_32 : decode M_BlockReader_init.2.1 32 = .ok (.sipush 256, 3) := by decide +kernel
theorem d_BlockReader_init_35 : decode M_BlockReader_init.2.1 35 = .ok (.newarray .int, 2) := by decide +kernel
theorem d_BlockReader_init_37 : decode M_BlockReader_init.2.1 37 = .ok (.putfield 28, 3) := by decide +kernel
theorem d_BlockReader_init_40 : decode M_BlockReader_init.2.1 40 = .ok (.aload_n 0, 1) := by decide +kernel
theorem d_BlockReader_init_41 : decode M_BlockReader_init.2.1 41 = .ok (.iconst 1, 1) := by decide +kernel
theorem d_BlockReader_init_42 : decode M_BlockReader_init.2.1 42 = .ok (.putfield 31, 3) := by decide +kernel
theorem d_BlockReader_init_45 : decode M_BlockReader_init.2.1 45 = .ok (.aload_n 0, 1) := by decide +kernel
theorem d_BlockReader_init_46 : decode M_BlockReader_init.2.1 46 = .ok (.aload_n 1, 1) := by decide +kernel
theorem d_BlockReader_init_47 : decode M_BlockReader_init.2.1 47 = .ok (.putfield 35, 3) := by decide +kernel
theorem d_BlockReader_init_50 : decode M_BlockReader_init.2.1 50 = .ok (.iconst 0, 1) := by decide +kernel
theorem d_BlockReader_init_51 : decode M_BlockReader_init.2.1 51 = .ok (.istore_n 2, 1) := by decide +kernel
theorem d_BlockReader_init_52 : decode M_BlockReader_init.2.1 52 = .ok (.iload_n 2, 1) := by decide +kernel
theorem d_BlockReader_init_53 : decode M_BlockReader_init.2.1 53 = .ok (.iconst 4, 1) := by decide +kernel
theorem d_BlockReader_init_54 : decode M_BlockReader_init.2.1 54 = .ok (.if_icmp .ge 25, 3) := by decide +kernel
theorem d_BlockReader_init_57 : decode M_BlockReader_init.2.1 57 = .ok (.aload_n 0, 1) := by decide +kernel
theorem d_BlockReader_init_58 : decode M_BlockReader_init.2.1 58 = .ok (.getfield 20, 3) := by decide +kernel
theorem d_BlockReader_init_61 : decode M_BlockReader_init.2.1 61 = .ok (.iload_n 2, 1) := by decide +kernel
theorem d_BlockReader_init_62 : decode M_BlockReader_init.2.1 62 = .ok (.new 18, 3) := by decide +kernel
theorem d_BlockReader_init_65 : decode M_BlockReader_init.2.1 65 = .ok (.dup, 1) := by decide +kernel
theorem d_BlockReader_init_66 : decode M_BlockReader_init.2.1 66 = .ok (.sipush 258, 3) := by decide +kernel
theorem d_BlockReader_init_69 : decode M_BlockReader_init.2.1 69 = .ok (.invokespecial 39, 3) := by decide +kernel
theorem d_BlockReader_init_72 : decode M_BlockReader_init.2.1 72 = .ok (.aastore, 1) := by decide +kernel
theorem d_BlockReader_init_73 : decode M_BlockReader_init.2.1 73 = .ok (.iinc 2 1, 3) := by decide +kernel
theorem d_BlockReader_init_76 : decode M_BlockReader_init.2.1 76 = .ok (.goto (-24), 3) := by decide +kernel
theorem d_BlockReader_init_79 : decode M_BlockReader_init.2.1 79 = .ok (.return_, 1) := by decide +kernel
theorem d_BlockReader_readBlock_0 : decode M_BlockReader_readBlock.2.1 0 = .ok (.aload_n 0, 1) := by decide +kernel
theorem d_BlockReader_readBlock_1 : decode M_BlockReader_readBlock.2.1 1 = .ok (.getfield 35, 3) := by decide +kernel
theorem d_BlockReader_readBlock_4 : decode M_BlockReader_readBlock.2.1 4 = .ok (.getfield 42, 3) := by decide +kernel
theorem d_BlockReader_readBlock_7 : decode M_BlockReader_readBlock.2.1 7 = .ok (.istore 4, 2) := by decide +kernel
theorem d_BlockReader_readBlock_9 : decode M_BlockReader_readBlock.2.1 9 = .ok (.aload_n 3, 1) := by decide +kernel
theorem d_BlockReader_readBlock_10 : decode M_BlockReader_readBlock.2.1 10 = .ok (.getfield 47, 3) := by decide +kernel
theorem d_BlockReader_readBlock_13 : decode M_BlockReader_readBlock.2.1 13 = .ok (.istore 5, 2) := by decide +kernel
theorem d_BlockReader_readBlock_15 : decode M_BlockReader_readBlock.2.1 15 = .ok (.aload_n 0, 1) := by decide +kernel
theorem d_BlockReader_readBlock_16 : decode M_BlockReader_readBlock.2.1 16 = .ok (.aload_n 1, 1) := by decide +kernel
theorem d_BlockReader_readBlock_17 : decode M_BlockReader_readBlock.2.1 17 = .ok (.invokevirtual 52, 3) := by decide +kernel
theorem d_BlockReader_readBlock_20 : decode M_BlockReader_readBlock.2.1 20 = .ok (.istore 6, 2) := by decide +kernel
theorem d_BlockReader_readBlock_22 : decode M_BlockReader_readBlock.2.1 22 = .ok (.iload 6, 2) := by decide +kernel
theorem d_BlockReader_readBlock_24 : decode M_BlockReader_readBlock.2.1 24 = .ok (.ifCond .ne 11, 3) := by decide +kernel
theorem d_BlockReader_readBlock_27 : decode M_BlockReader_readBlock.2.1 27 = .ok (.aload_n 0, 1) := by decide +kernel
theorem d_BlockReader_readBlock_28 : decode M_BlockReader_readBlock.2.1 28 = .ok (.aload_n 1, 1) := by decide +kernel
theorem d_BlockReader_readBlock_29 : decode M_BlockReader_readBlock.2.1 29 = .ok (.invokevirtual 56, 3) := by decide +kernel
theorem d_BlockReader_readBlock_32 : decode M_BlockReader_readBlock.2.1 32 = .ok (.goto 5, 3) := by decide +kernel
theorem d_BlockReader_readBlock_35 : decode M_BlockReader_readBlock.2.1 35 = .ok (.iload 6, 2) := by decide +kernel
theorem d_BlockReader_readBlock_37 : decode M_BlockReader_readBlock.2.1 37 = .ok (.istore 6, 2) := by decide +kernel
theorem d_BlockReader_readBlock_39 : decode M_BlockReader_readBlock.2.1 39 = .ok (.iload 6, 2) := by decide +kernel
theorem d_BlockReader_readBlock_41 : decode M_BlockReader_readBlock.2.1 41 = .ok (.ifCond .ne 11, 3) := by decide +kernel
theorem d_BlockReader_readBlock_44 : decode M_BlockReader_readBlock.2.1 44 = .ok (.aload_n 0, 1) := by decide +kernel
theorem d_BlockReader_readBlock_45 : decode M_BlockReader_readBlock.2.1 45 = .ok (.aload_n 1, 1) := by decide +kernel
theorem d_BlockReader_readBlock_46 : decode M_BlockReader_readBlock.2.1 46 = .ok (.invokevirtual 59, 3) := by decide +kernel
theorem d_BlockReader_readBlock_49 : decode M_BlockReader_readBlock.2.1 49 = .ok (.goto 5, 3) := by decide +kernel
theorem d_BlockReader_readBlock_52 : decode M_BlockReader_readBlock.2.1 52 = .ok (.iload 6, 2) := by decide +kernel
theorem d_BlockReader_readBlock_54 : decode M_BlockReader_readBlock.2.1 54 = .ok (.istore 6, 2) := by decide +kernel
theorem d_BlockReader_readBlock_56 : decode M_BlockReader_readBlock.2.1 56 = .ok (.iload 6, 2) := by decide +kernel
theorem d_BlockReader_readBlock_58 : decode M_BlockReader_readBlock.2.1 58 = .ok (.ifCond .ne 11, 3) := by decide +kernel
theorem d_BlockReader_readBlock_61 : decode M_BlockReader_readBlock.2.1 61 = .ok (.aload_n 0, 1) := by decide +kernel
theorem d_BlockReader_readBlock_62 : decode M_BlockReader_readBlock.2.1 62 = .ok (.aload_n 1, 1) := by decide +kernel
theorem d_BlockReader_readBlock_63 : decode M_BlockReader_readBlock.2.1 63 = .ok (.invokevirtual 62, 3) := by decide +kernel
theorem d_BlockReader_readBlock_66 : decode M_BlockReader_readBlock.2.1 66 = .ok (.goto 5, 3) := by decide +kernel
theorem d_BlockReader_readBlock_69 : decode M_BlockReader_readBlock.2.1 69 = .ok (.iload 6, 2) := by decide +kernel
theorem d_BlockReader_readBlock_71 : decode M_BlockReader_readBlock.2.1 71 = .ok (.istore 6, 2) := by decide +kernel
theorem d_BlockReader_readBlock_73 : decode M_BlockReader_readBlock.2.1 73 = .ok (.iload 6, 2) := by decide +kernel
theorem d_BlockReader_readBlock_75 : decode M_BlockReader_readBlock.2.1 75 = .ok (.ifCond .ne 11, 3) := by decide +kernel
theorem d_BlockReader_readBlock_78 : decode M_BlockReader_readBlock.2.1 78 = .ok (.aload_n 0, 1) := by decide +kernel
theorem d_BlockReader_readBlock_79 : decode M_BlockReader_readBlock.2.1 79 = .ok (.aload_n 1, 1) := by decide +kernel
theorem d_BlockReader_readBlock_80 : decode M_BlockReader_readBlock.2.1 80 = .ok (.invokevirtual 65, 3) := by decide +kernel
theorem d_BlockReader_readBlock_83 : decode M_BlockReader_readBlock.2.1 83 = .ok (.goto 5, 3) := by decide +kernel
theorem d_BlockReader_readBlock_86 : decode M_BlockReader_readBlock.2.1 86 = .ok (.iload 6, 2) := by decide +kernel
theorem d_BlockReader_readBlock_88 : decode M_BlockReader_readBlock.2.1 88 = .ok (.istore 6, 2) := by decide +kernel
theorem d_BlockReader_readBlock_90 : decode M_BlockReader_readBlock.2.1 90 = .ok (.iload 6, 2) := by decide +kernel
theorem d_BlockReader_readBlock_92 : decode M_BlockReader_readBlock.2.1 92 = .ok (.ifCond .ne 12, 3) := by decide +kernel
theorem d_BlockReader_readBlock_95 : decode M_BlockReader_readBlock.2.1 95 = .ok (.aload_n 0, 1) := by decide +kernel
theorem d_BlockReader_readBlock_96 : decode M_BlockReader_readBlock.2.1 96 = .ok (.aload_n 1, 1) := by decide +kernel
theorem d_BlockReader_readBlock_97 : decode M_BlockReader_readBlock.2.1 97 = .ok (.iload_n 2, 1) := by decide +kernel
theorem d_BlockReader_readBlock_98 : decode M_BlockReader_readBlock.2.1 98 = .ok (.invokevirtual 68, 3) := by decide +kernel
theorem d_BlockReader_readBlock_101 : decode M_BlockReader_readBlock.2.1 101 = .ok (.goto 5, 3) := by decide +kernel
theorem d_BlockReader_readBlock_104 : decode M_BlockReader_readBlock.2.1 104 = .ok (.iload 6, 2) := by decide +kernel
theorem d_BlockReader_readBlock_106 : decode M_BlockReader_readBlock.2.1 106 = .ok (.istore 6, 2) := by decide +kernel
theorem d_BlockReader_readBlock_108 : decode M_BlockReader_readBlock.2.1 108 = .ok (.iload 6, 2) := by decide +kernel
theorem d_BlockReader_readBlock_110 : decode M_BlockReader_readBlock.2.1 110 = .ok (.ifCond .ne 11, 3) := by decide +kernel
theorem d_BlockReader_readBlock_113 : decode M_BlockReader_readBlock.2.1 113 = .ok (.aload_n 0, 1) := by decide +kernel
theorem d_BlockReader_readBlock_114 : decode M_BlockReader_readBlock.2.1 114 = .ok (.aload_n 1, 1) := by decide +kernel
theorem d_BlockReader_readBlock_115 : decode M_BlockReader_readBlock.2.1 115 = .ok (.invokevirtual 72, 3) := by decide +kernel
theorem d_BlockReader_readBlock_118 : decode M_BlockReader_readBlock.2.1 118 = .ok (.goto 5, 3) := by decide +kernel
theorem d_BlockReader_readBlock_121 : decode M_BlockReader_readBlock.2.1 121 = .ok (.iload 6, 2) := by decide +kernel
theorem d_BlockReader_readBlock_123 : decode M_BlockReader_readBlock.2.1 123 = .ok (.istore 6, 2) := by decide +kernel
theorem d_BlockReader_readBlock_125 : decode M_BlockReader_readBlock.2.1 125 = .ok (.iload 6, 2) := by decide +kernel
theorem d_BlockReader_readBlock_127 : decode M_BlockReader_readBlock.2.1 127 = .ok (.ifCond .ne 11, 3) := by decide +kernel
theorem d_BlockReader_readBlock_130 : decode M_BlockReader_readBlock.2.1 130 = .ok (.aload_n 1, 1) := by decide +kernel
theorem d_BlockReader_readBlock_131 : decode M_BlockReader_readBlock.2.1 131 = .ok (.aload_n 3, 1) := by decide +kernel
theorem d_BlockReader_readBlock_132 : decode M_BlockReader_readBlock.2.1 132 = .ok (.invokestatic 75, 3) := by decide +kernel
theorem d_BlockReader_readBlock_135 : decode M_BlockReader_readBlock.2.1 135 = .ok (.goto 5, 3) := by decide +kernel
theorem d_BlockReader_readBlock_138 : decode M_BlockReader_readBlock.2.1 138 = .ok (.iload 6, 2) := by decide +kernel
theorem d_BlockReader_readBlock_140 : decode M_BlockReader_readBlock.2.1 140 = .ok (.istore 6, 2) := by decide +kernel
theorem d_BlockReader_readBlock_142 : decode M_BlockReader_readBlock.2.1 142 = .ok (.iload 6, 2) := by decide +kernel
theorem d_BlockReader_readBlock_144 : decode M_BlockReader_readBlock.2.1 144 = .ok (.ifCond .ne 33, 3) := by decide +kernel
theorem d_BlockReader_readBlock_147 : decode M_BlockReader_readBlock.2.1 147 = .ok (.aload_n 3, 1) := by decide +kernel
theorem d_BlockReader_readBlock_148 : decode M_BlockReader_readBlock.2.1 148 = .ok (.iload 5, 2) := by decide +kernel
theorem d_BlockReader_readBlock_150 : decode M_BlockReader_readBlock.2.1 150 = .ok (.aload_n 3, 1) := by decide +kernel
theorem d_BlockReader_readBlock_151 : decode M_BlockReader_readBlock.2.1 151 = .ok (.getfield 47, 3) := by decide +kernel
theorem d_BlockReader_readBlock_154 : decode M_BlockReader_readBlock.2.1 154 = .ok (.invokestatic 79, 3) := by decide +kernel
theorem d_BlockReader_readBlock_157 : decode M_BlockReader_readBlock.2.1 157 = .ok (.aload_n 1, 1) := by decide +kernel
theorem d_BlockReader_readBlock_158 : decode M_BlockReader_readBlock.2.1 158 = .ok (.getfield 83, 3) := by decide +kernel
theorem d_BlockReader_readBlock_161 : decode M_BlockReader_readBlock.2.1 161 = .ok (.if_icmp .eq 16, 3) := by decide +kernel
theorem d_BlockReader_readBlock_164 : decode M_BlockReader_readBlock.2.1 164 = .ok (.aload_n 0, 1) := by decide +kernel
theorem d_BlockReader_readBlock_165 : decode M_BlockReader_readBlock.2.1 165 = .ok (.getfield 35, 3) := by decide +kernel
theorem d_BlockReader_readBlock_168 : decode M_BlockReader_readBlock.2.1 168 = .ok (.iload 4, 2) := by decide +kernel
theorem d_BlockReader_readBlock_170 : decode M_BlockReader_readBlock.2.1 170 = .ok (.putfield 88, 3) := by decide +kernel
theorem d_BlockReader_readBlock_173 : decode M_BlockReader_readBlock.2.1 173 = .ok (.bipush (-14), 2) := by decide +kernel
theorem d_BlockReader_readBlock_175 : decode M_BlockReader_readBlock.2.1 175 = .ok (.istore 6, 2) := by decide +kernel
theorem d_BlockReader_readBlock_177 : decode M_BlockReader_readBlock.2.1 177 = .ok (.iload 6, 2) := by decide +kernel
theorem d_BlockReader_readBlock_179 : decode M_BlockReader_readBlock.2.1 179 = .ok (.ifCond .eq 9, 3) := by decide +kernel
theorem d_BlockReader_readBlock_182 : decode M_BlockReader_readBlock.2.1 182 = .ok (.aload_n 3, 1) := by decide +kernel
theorem d_BlockReader_readBlock_183 : decode M_BlockReader_readBlock.2.1 183 = .ok (.iload 5, 2) := by decide +kernel
theorem d_BlockReader_readBlock_185 : decode M_BlockReader_readBlock.2.1 185 = .ok (.invokevirtual 91, 3) := by decide +kernel
theorem d_BlockReader_readBlock_188 : decode M_BlockReader_readBlock.2.1 188 = .ok (.iload 6, 2) := by decide +kernel
theorem d_BlockReader_readBlock_190 : decode M_BlockReader_readBlock.2.1 190 = .ok (.ireturn, 1) := by decide +kernel
theorem d_BlockReader_readNumbers_0 : decode M_BlockReader_readNumbers.2.1 0 = .ok (.aload_n 1, 1) := by decide +kernel
theorem d_BlockReader_readNumbers_1 : decode M_BlockReader_readNumbers.2.1 1 = .ok (.aload_n 0, 1) := by decide +kernel
theorem d_BlockReader_readNumbers_2 : decode M_BlockReader_readNumbers.2.1 2 = .ok (.getfield 35, 3) := by decide +kernel
theorem d_BlockReader_readNumbers_5 : decode M_BlockReader_readNumbers.2.1 5 = .ok (.bipush 16, 2) := by decide +kernel
theorem d_BlockReader_readNumbers_7 : decode M_BlockReader_readNumbers.2.1 7 = .ok (.invokevirtual 94, 3) := by decide +kernel
theorem d_BlockReader_readNumbers_10 : decode M_BlockReader_readNumbers.2.1 10 = .ok (.putfield 83, 3) := by decide +kernel
theorem d_BlockReader_readNumbers_13 : decode M_BlockReader_readNumbers.2.1 13 = .ok (.aload_n 1, 1) := by decide +kernel
theorem d_BlockReader_readNumbers_14 : decode M_BlockReader_readNumbers.2.1 14 = .ok (.getfield 83, 3) := by decide +kernel
theorem d_BlockReader_readNumbers_17 : decode M_BlockReader_readNumbers.2.1 17 = .ok (.ifCond .ge 8, 3) := by decide +kernel
theorem d_BlockReader_readNumbers_20 : decode M_BlockReader_readNumbers.2.1 20 = .ok (.aload_n 1, 1) := by decide +kernel
theorem d_BlockReader_readNumbers_21 : decode M_BlockReader_readNumbers.2.1 21 = .ok (.getfield 83, 3) := by decide +kernel
theorem d_BlockReader_readNumbers_24 : decode M_BlockReader_readNumbers.2.1 24 = .ok (.ireturn, 1) := by decide +kernel
theorem d_BlockReader_readNumbers_25 : decode M_BlockReader_readNumbers.2.1 25 = .ok (.aload_n 1, 1) := by decide +kernel
theorem d_BlockReader_readNumbers_26 : decode M_BlockReader_readNumbers.2.1 26 = .ok (.aload_n 0, 1) := by decide +kernel
theorem d_BlockReader_readNumbers_27 : decode M_BlockReader_readNumbers.2.1 27 = .ok (.getfield 35, 3) := by decide +kernel
theorem d_BlockReader_readNumbers_30 : decode M_BlockReader_readNumbers.2.1 30 = .ok (.bipush 6, 2) := by decide +kernel
theorem d_BlockReader_readNumbers_32 : decode M_BlockReader_readNumbers.2.1 32 = .ok (.invokevirtual 94, 3) := by decide +kernel
theorem d_BlockReader_readNumbers_35 : decode M_BlockReader_readNumbers.2.1 35 = .ok (.putfield 98, 3) := by decide +kernel
theorem d_BlockReader_readNumbers_38 : decode M_BlockReader_readNumbers.2.1 38 = .ok (.aload_n 1, 1) := by decide +kernel
theorem d_BlockReader_readNumbers_39 : decode M_BlockReader_readNumbers.2.1 39 = .ok (.getfield 98, 3) := by decide +kernel
theorem d_BlockReader_readNumbers_42 : decode M_BlockReader_readNumbers.2.1 42 = .ok (.ifCond .ge 10, 3) := by decide +kernel
theorem d_BlockReader_readNumbers_45 : decode M_BlockReader_readNumbers.2.1 45 = .ok (.aload_n 1, 1) := by decide +kernel
theorem d_BlockReader_readNumbers_46 : decode M_BlockReader_readNumbers.2.1 46 = .ok (.getfield 98, 3) := by decide +kernel
theorem d_BlockReader_readNumbers_49 : decode M_BlockReader_readNumbers.2.1 49 = .ok (.goto 4, 3) := by decide +kernel
theorem d_BlockReader_readNumbers_52 : decode M_BlockReader_readNumbers.2.1 52 = .ok (.iconst 0, 1) := by decide +kernel
theorem d_BlockReader_readNumbers_53 : decode M_BlockReader_readNumbers.2.1 53 = .ok (.ireturn, 1) := by decide +kernel
theorem d_BlockReader_readMap_0 : decode M_BlockReader_readMap.2.1 0 = .ok (.aload_n 1, 1) := by decide +kernel
theorem d_BlockReader_readMap_1 : decode M_BlockReader_readMap.2.1 1 = .ok (.iconst 0, 1) := by decide +kernel
theorem d_BlockReader_readMap_2 : decode M_BlockReader_readMap.2.1 2 = .ok (.putfield 101, 3) := by decide +kernel
theorem d_BlockReader_readMap_5 : decode M_BlockReader_readMap.2.1 5 = .ok (.aload_n 0, 1) := by decide +kernel
theorem d_BlockReader_readMap_6 : decode M_BlockReader_readMap.2.1 6 = .ok (.getfield 35, 3) := by decide +kernel
theorem d_BlockReader_readMap_9 : decode M_BlockReader_readMap.2.1 9 = .ok (.bipush 16, 2) := by decide +kernel
theorem d_BlockReader_readMap_11 : decode M_BlockReader_readMap.2.1 11 = .ok (.invokevirtual 94, 3) := by decide +kernel
theorem d_BlockReader_readMap_14 : decode M_BlockReader_readMap.2.1 14 = .ok (.istore_n 2, 1) := by decide +kernel
theorem d_BlockReader_readMap_15 : decode M_BlockReader_readMap.2.1 15 = .ok (.iload_n 2, 1) := by decide +kernel
theorem d_BlockReader_readMap_16 : decode M_BlockReader_readMap.2.1 16 = .ok (.ifCond .ge 5, 3) := by decide +kernel
theorem d_BlockReader_readMap_19 : decode M_BlockReader_readMap.2.1 19 = .ok (.iload_n 2, 1) := by decide +kernel
theorem d_BlockReader_readMap_20 : decode M_BlockReader_readMap.2.1 20 = .ok (.ireturn, 1) := by decide +kernel
theorem d_BlockReader_readMap_21 : decode M_BlockReader_readMap.2.1 21 = .ok (.iconst 0, 1) := by decide +kernel
theorem d_BlockReader_readMap_22 : decode M_BlockReader_readMap.2.1 22 = .ok (.istore_n 3, 1) := by decide +kernel
theorem d_BlockReader_readMap_23 : decode M_BlockReader_readMap.2.1 23 = .ok (.iload_n 3, 1) := by decide +kernel
theorem d_BlockReader_readMap_24 : decode M_BlockReader_readMap.2.1 24 = .ok (.bipush 16, 2) := by decide +kernel
theorem d_BlockReader_readMap_26 : decode M_BlockReader_readMap.2.1 26 = .ok (.if_icmp .ge 47, 3) := by decide +kernel
theorem d_BlockReader_readMap_29 : decode M_BlockReader_readMap.2.1 29 = .ok (.iload_n 2, 1) := by decide +kernel
theorem d_BlockReader_readMap_30 : decode M_BlockReader_readMap.2.1 30 = .ok (.iload_n 3, 1) := by decide +kernel
theorem d_BlockReader_readMap_31 : decode M_BlockReader_readMap.2.1 31 = .ok (.invokestatic 104, 3) := by decide +kernel
theorem d_BlockReader_readMap_34 : decode M_BlockReader_readMap.2.1 34 = .ok (.iand, 1) := by decide +kernel
theorem d_BlockReader_readMap_35 : decode M_BlockReader_readMap.2.1 35 = .ok (.ifCond .eq 32, 3) := by decide +kernel
theorem d_BlockReader_readMap_38 : decode M_BlockReader_readMap.2.1 38 = .ok (.aload_n 0, 1) := by decide +kernel
theorem d_BlockReader_readMap_39 : decode M_BlockReader_readMap.2.1 39 = .ok (.getfield 35, 3) := by decide +kernel
theorem d_BlockReader_readMap_42 : decode M_BlockReader_readMap.2.1 42 = .ok (.bipush 16, 2) := by decide +kernel
theorem d_BlockReader_readMap_44 : decode M_BlockReader_readMap.2.1 44 = .ok (.invokevirtual 94, 3) := by decide +kernel
theorem d_BlockReader_readMap_47 : decode M_BlockReader_readMap.2.1 47 = .ok (.istore 4, 2) := by decide +kernel
theorem d_BlockReader_readMap_49 : decode M_BlockReader_readMap.2.1 49 = .ok (.iload 4, 2) := by decide +kernel
theorem d_BlockReader_readMap_51 : decode M_BlockReader_readMap.2.1 51 = .ok (.ifCond .ge 6, 3) := by decide +kernel
theorem d_BlockReader_readMap_54 : decode M_BlockReader_readMap.2.1 54 = .ok (.iload 4, 2) := by decide +kernel
theorem d_BlockReader_readMap_56 : decode M_BlockReader_readMap.2.1 56 = .ok (.ireturn, 1) := by decide +kernel
theorem d_BlockReader_readMap_57 : decode M_BlockReader_readMap.2.1 57 = .ok (.aload_n 1, 1) := by decide +kernel
theorem d_BlockReader_readMap_58 : decode M_BlockReader_readMap.2.1 58 = .ok (.bipush 16, 2) := by decide +kernel
theorem d_BlockReader_readMap_60 : decode M_BlockReader_readMap.2.1 60 = .ok (.iload_n 3, 1) := by decide +kernel
theorem d_BlockReader_readMap_61 : decode M_BlockReader_readMap.2.1 61 = .ok (.imul, 1) := by decide +kernel
theorem d_BlockReader_readMap_62 : decode M_BlockReader_readMap.2.1 62 = .ok (.iload 4, 2) := by decide +kernel
theorem d_BlockReader_readMap_64 : decode M_BlockReader_readMap.2.1 64 = .ok (.invokestatic 107, 3) := by decide +kernel
theorem d_BlockReader_readMap_67 : decode M_BlockReader_readMap.2.1 67 = .ok (.iinc 3 1, 3) := by decide +kernel
theorem d_BlockReader_readMap_70 : decode M_BlockReader_readMap.2.1 70 = .ok (.goto (-47), 3) := by decide +kernel
theorem d_BlockReader_readMap_73 : decode M_BlockReader_readMap.2.1 73 = .ok (.aload_n 1, 1) := by decide +kernel
theorem d_BlockReader_readMap_74 : decode M_BlockReader_readMap.2.1 74 = .ok (.getfield 101, 3) := by decide +kernel
theorem d_BlockReader_readMap_77 : decode M_BlockReader_readMap.2.1 77 = .ok (.ifCond .ne 8, 3) := by decide +kernel
theorem d_BlockReader_readMap_80 : decode M_BlockReader_readMap.2.1 80 = .ok (.bipush (-5), 2) := by decide +kernel
theorem d_BlockReader_readMap_82 : decode M_BlockReader_readMap.2.1 82 = .ok (.goto 4, 3) := by decide +kernel
theorem d_BlockReader_readMap_85 : decode M_BlockReader_readMap.2.1 85 = .ok (.iconst 0, 1) := by decide +kernel
theorem d_BlockReader_readMap_86 : decode M_BlockReader_readMap.2.1 86 = .ok (.ireturn, 1) := by decide +kernel
theorem d_BlockReader_addKinds_0 : decode M_BlockReader_addKinds.2.1 0 = .ok (.iconst 0, 1) := by decide +kernel
theorem d_BlockReader_addKinds_1 : decode M_BlockReader_addKinds.2.1 1 = .ok (.istore_n 3, 1) := by decide +kernel
theorem d_BlockReader_addKinds_2 : decode M_BlockReader_addKinds.2.1 2 = .ok (.iload_n 3, 1) := by decide +kernel
theorem d_BlockReader_addKinds_3 : decode M_BlockReader_addKinds.2.1 3 = .ok (.bipush 16, 2) := by decide +kernel
theorem d_BlockReader_addKinds_5 : decode M_BlockReader_addKinds.2.1 5 = .ok (.if_icmp .ge 25, 3) := by decide +kernel
theorem d_BlockReader_addKinds_8 : decode M_BlockReader_addKinds.2.1 8 = .ok (.iload_n 2, 1) := by decide +kernel
theorem d_BlockReader_addKinds_9 : decode M_BlockReader_addKinds.2.1 9 = .ok (.iload_n 3, 1) := by decide +kernel
theorem d_BlockReader_addKinds_10 : decode M_BlockReader_addKinds.2.1 10 = .ok (.invokestatic 104, 3) := by decide +kernel
theorem d_BlockReader_addKinds_13 : decode M_BlockReader_addKinds.2.1 13 = .ok (.iand, 1) := by decide +kernel
theorem d_BlockReader_addKinds_14 : decode M_BlockReader_addKinds.2.1 14 = .ok (.ifCond .eq 10, 3) := by decide +kernel
theorem d_BlockReader_addKinds_17 : decode M_BlockReader_addKinds.2.1 17 = .ok (.aload_n 0, 1) := by decide +kernel
theorem d_BlockReader_addKinds_18 : decode M_BlockReader_addKinds.2.1 18 = .ok (.iload_n 1, 1) := by decide +kernel
theorem d_BlockReader_addKinds_19 : decode M_BlockReader_addKinds.2.1 19 = .ok (.iload_n 3, 1) := by decide +kernel
theorem d_BlockReader_addKinds_20 : decode M_BlockReader_addKinds.2.1 20 = .ok (.iadd, 1) := by decide +kernel
theorem d_BlockReader_addKinds_21 : decode M_BlockReader_addKinds.2.1 21 = .ok (.invokevirtual 111, 3) := by decide +kernel
theorem d_BlockReader_addKinds_24 : decode M_BlockReader_addKinds.2.1 24 = .ok (.iinc 3 1, 3) := by decide +kernel
theorem d_BlockReader_addKinds_27 : decode M_BlockReader_addKinds.2.1 27 = .ok (.goto (-25), 3) := by decide +kernel
theorem d_BlockReader_addKinds_30 : decode M_BlockReader_addKinds.2.1 30 = .ok (.return_, 1) := by decide +kernel
theorem d_BlockReader_readCounts_0 : decode M_BlockReader_readCounts.2.1 0 = .ok (.aload_n 1, 1) := by decide +kernel
theorem d_BlockReader_readCounts_1 : decode M_BlockReader_readCounts.2.1 1 = .ok (.aload_n 0, 1) := by decide +kernel
theorem d_BlockReader_readCounts_2 : decode M_BlockReader_readCounts.2.1 2 = .ok (.getfield 35, 3) := by decide +kernel
theorem d_BlockReader_readCounts_5 : decode M_BlockReader_readCounts.2.1 5 = .ok (.iconst 3, 1) := by decide +kernel
theorem d_BlockReader_readCounts_6 : decode M_BlockReader_readCounts.2.1 6 = .ok (.invokevirtual 94, 3) := by decide +kernel
theorem d_BlockReader_readCounts_9 : decode M_BlockReader_readCounts.2.1 9 = .ok (.putfield 114, 3) := by decide +kernel
theorem d_BlockReader_readCounts_12 : decode M_BlockReader_readCounts.2.1 12 = .ok (.aload_n 1, 1) := by decide +kernel
theorem d_BlockReader_readCounts_13 : decode M_BlockReader_readCounts.2.1 13 = .ok (.getfield 114, 3) := by decide +kernel
theorem d_BlockReader_readCounts_16 : decode M_BlockReader_readCounts.2.1 16 = .ok (.ifCond .ge 8, 3) := by decide +kernel
theorem d_BlockReader_readCounts_19 : decode M_BlockReader_readCounts.2.1 19 = .ok (.aload_n 1, 1) := by decide +kernel
theorem d_BlockReader_readCounts_20 : decode M_BlockReader_readCounts.2.1 20 = .ok (.getfield 114, 3) := by decide +kernel
theorem d_BlockReader_readCounts_23 : decode M_BlockReader_readCounts.2.1 23 = .ok (.ireturn, 1) := by decide +kernel
theorem d_BlockReader_readCounts_24 : decode M_BlockReader_readCounts.2.1 24 = .ok (.aload_n 1, 1) := by decide +kernel
theorem d_BlockReader_readCounts_25 : decode M_BlockReader_readCounts.2.1 25 = .ok (.getfield 114, 3) := by decide +kernel
theorem d_BlockReader_readCounts_28 : decode M_BlockReader_readCounts.2.1 28 = .ok (.iconst 1, 1) := by decide +kernel
theorem d_BlockReader_readCounts_29 : decode M_BlockReader_readCounts.2.1 29 = .ok (.if_icmp .lt 11, 3) := by decide +kernel
theorem d_BlockReader_readCounts_32 : decode M_BlockReader_readCounts.2.1 32 = .ok (.aload_n 1, 1) := by decide +kernel
theorem d_BlockReader_readCounts_33 : decode M_BlockReader_readCounts.2.1 33 = .ok (.getfield 114, 3) := by decide +kernel
theorem d_BlockReader_readCounts_36 : decode M_BlockReader_readCounts.2.1 36 = .ok (.iconst 4, 1) := by decide +kernel
theorem d_BlockReader_readCounts_37 : decode M_BlockReader_readCounts.2.1 37 = .ok (.if_icmp .le 6, 3) := by decide +kernel
theorem d_BlockReader_readCounts_40 : decode M_BlockReader_readCounts.2.1 40 = .ok (.bipush (-6), 2) := by decide +kernel
theorem d_BlockReader_readCounts_42 : decode M_BlockReader_readCounts.2.1 42 = .ok (.ireturn, 1) := by decide +kernel
theorem d_BlockReader_readCounts_43 : decode M_BlockReader_readCounts.2.1 43 = .ok (.aload_n 1, 1) := by decide +kernel
theorem d_BlockReader_readCounts_44 : decode M_BlockReader_readCounts.2.1 44 = .ok (.aload_n 0, 1) := by decide +kernel
theorem d_BlockReader_readCounts_45 : decode M_BlockReader_readCounts.2.1 45 = .ok (.getfield 35, 3) := by decide +kernel
theorem d_BlockReader_readCounts_48 : decode M_BlockReader_readCounts.2.1 48 = .ok (.bipush 6, 2) := by decide +kernel
theorem d_BlockReader_readCounts_50 : decode M_BlockReader_readCounts.2.1 50 = .ok (.invokevirtual 94, 3) := by decide +kernel
theorem d_BlockReader_readCounts_53 : decode M_BlockReader_readCounts.2.1 53 = .ok (.putfield 117, 3) := by decide +kernel
theorem d_BlockReader_readCounts_56 : decode M_BlockReader_readCounts.2.1 56 = .ok (.aload_n 1, 1) := by decide +kernel
theorem d_BlockReader_readCounts_57 : decode M_BlockReader_readCounts.2.1 57 = .ok (.getfield 117, 3) := by decide +kernel
theorem d_BlockReader_readCounts_60 : decode M_BlockReader_readCounts.2.1 60 = .ok (.ifCond .ge 8, 3) := by decide +kernel
theorem d_BlockReader_readCounts_63 : decode M_BlockReader_readCounts.2.1 63 = .ok (.aload_n 1, 1) := by decide +kernel
theorem d_BlockReader_readCounts_64 : decode M_BlockReader_readCounts.2.1 64 = .ok (.getfield 117, 3) := by decide +kernel
theorem d_BlockReader_readCounts_67 : decode M_BlockReader_readCounts.2.1 67 = .ok (.ireturn, 1) := by decide +kernel
theorem d_BlockReader_readCounts_68 : decode M_BlockReader_readCounts.2.1 68 = .ok (.aload_n 1, 1) := by decide +kernel
theorem d_BlockReader_readCounts_69 : decode M_BlockReader_readCounts.2.1 69 = .ok (.getfield 117, 3) := by decide +kernel
theorem d_BlockReader_readCounts_72 : decode M_BlockReader_readCounts.2.1 72 = .ok (.ifCond .ne 8, 3) := by decide +kernel
theorem d_BlockReader_readCounts_75 : decode M_BlockReader_readCounts.2.1 75 = .ok (.bipush (-7), 2) := by decide +kernel
theorem d_BlockReader_readCounts_77 : decode M_BlockReader_readCounts.2.1 77 = .ok (.goto 4, 3) := by decide +kernel
theorem d_BlockReader_readCounts_80 : decode M_BlockReader_readCounts.2.1 80 = .ok (.iconst 0, 1) := by decide +kernel
theorem d_BlockReader_readCounts_81 : decode M_BlockReader_readCounts.2.1 81 = .ok (.ireturn, 1) := by decide +kernel
theorem d_BlockReader_readPicks_0 : decode M_BlockReader_readPicks.2.1 0 = .ok (.aload_n 0, 1) := by decide +kernel
theorem d_BlockReader_readPicks_1 : decode M_BlockReader_readPicks.2.1 1 = .ok (.getfield 12, 3) := by decide +kernel
theorem d_BlockReader_readPicks_4 : decode M_BlockReader_readPicks.2.1 4 = .ok (.aload_n 1, 1) := by decide +kernel
theorem d_BlockReader_readPicks_5 : decode M_BlockReader_readPicks.2.1 5 = .ok (.getfield 114, 3) := by decide +kernel
theorem d_BlockReader_readPicks_8 : decode M_BlockReader_readPicks.2.1 8 = .ok (.invokevirtual 120, 3) := by decide +kernel
theorem d_BlockReader_readPicks_11 : decode M_BlockReader_readPicks.2.1 11 = .ok (.iconst 0, 1) := by decide +kernel
theorem d_BlockReader_readPicks_12 : decode M_BlockReader_readPicks.2.1 12 = .ok (.istore_n 2, 1) := by decide +kernel
theorem d_BlockReader_readPicks_13 : decode M_BlockReader_readPicks.2.1 13 = .ok (.iload_n 2, 1) := by decide +kernel
theorem d_BlockReader_readPicks_14 : decode M_BlockReader_readPicks.2.1 14 = .ok (.aload_n 1, 1) := by decide +kernel
theorem d_BlockReader_readPicks_15 : decode M_BlockReader_readPicks.2.1 15 = .ok (.getfield 117, 3) := by decide +kernel
theorem d_BlockReader_readPicks_18 : decode M_BlockReader_readPicks.2.1 18 = .ok (.if_icmp .ge 38, 3) := by decide +kernel
theorem d_BlockReader_readPicks_21 : decode M_BlockReader_readPicks.2.1 21 = .ok (.aload_n 0, 1) := by decide +kernel
theorem d_BlockReader_readPicks_22 : decode M_BlockReader_readPicks.2.1 22 = .ok (.aload_n 1, 1) := by decide +kernel
theorem d_BlockReader_readPicks_23 : decode M_BlockReader_readPicks.2.1 23 = .ok (.getfield 114, 3) := by decide +kernel
theorem d_BlockReader_readPicks_26 : decode M_BlockReader_readPicks.2.1 26 = .ok (.invokevirtual 123, 3) := by decide +kernel
theorem d_BlockReader_readPicks_29 : decode M_BlockReader_readPicks.2.1 29 = .ok (.istore_n 3, 1) := by decide +kernel
theorem d_BlockReader_readPicks_30 : decode M_BlockReader_readPicks.2.1 30 = .ok (.iload_n 3, 1) := by decide +kernel
theorem d_BlockReader_readPicks_31 : decode M_BlockReader_readPicks.2.1 31 = .ok (.ifCond .ge 5, 3) := by decide +kernel
theorem d_BlockReader_readPicks_34 : decode M_BlockReader_readPicks.2.1 34 = .ok (.iload_n 3, 1) := by decide +kernel
theorem d_BlockReader_readPicks_35 : decode M_BlockReader_readPicks.2.1 35 = .ok (.ireturn, 1) := by decide +kernel
theorem d_BlockReader_readPicks_36 : decode M_BlockReader_readPicks.2.1 36 = .ok (.aload_n 1, 1) := by decide +kernel
theorem d_BlockReader_readPicks_37 : decode M_BlockReader_readPicks.2.1 37 = .ok (.getfield 126, 3) := by decide +kernel
theorem d_BlockReader_readPicks_40 : decode M_BlockReader_readPicks.2.1 40 = .ok (.iload_n 2, 1) := by decide +kernel
theorem d_BlockReader_readPicks_41 : decode M_BlockReader_readPicks.2.1 41 = .ok (.aload_n 0, 1) := by decide +kernel
theorem d_BlockReader_readPicks_42 : decode M_BlockReader_readPicks.2.1 42 = .ok (.getfield 12, 3) := by decide +kernel
theorem d_BlockReader_readPicks_45 : decode M_BlockReader_readPicks.2.1 45 = .ok (.iload_n 3, 1) := by decide +kernel
theorem d_BlockReader_readPicks_46 : decode M_BlockReader_readPicks.2.1 46 = .ok (.invokevirtual 129, 3) := by decide +kernel
theorem d_BlockReader_readPicks_49 : decode M_BlockReader_readPicks.2.1 49 = .ok (.iastore, 1) := by decide +kernel
theorem d_BlockReader_readPicks_50 : decode M_BlockReader_readPicks.2.1 50 = .ok (.iinc 2 1, 3) := by decide +kernel
theorem d_BlockReader_readPicks_53 : decode M_BlockReader_readPicks.2.1 53 = .ok (.goto (-40), 3) := by decide +kernel
theorem d_BlockReader_readPicks_56 : decode M_BlockReader_readPicks.2.1 56 = .ok (.iconst 0, 1) := by decide +kernel
theorem d_BlockReader_readPicks_57 : decode M_BlockReader_readPicks.2.1 57 = .ok (.ireturn, 1) := by decide +kernel
theorem d_BlockReader_readPick_0 : decode M_BlockReader_readPick.2.1 0 = .ok (.aload_n 0, 1) := by decide +kernel
theorem d_BlockReader_readPick_1 : decode M_BlockReader_readPick.2.1 1 = .ok (.getfield 35, 3) := by decide +kernel
theorem d_BlockReader_readPick_4 : decode M_BlockReader_readPick.2.1 4 = .ok (.invokevirtual 132, 3) := by decide +kernel
theorem d_BlockReader_readPick_7 : decode M_BlockReader_readPick.2.1 7 = .ok (.iconst 0, 1) := by decide +kernel
theorem d_BlockReader_readPick_8 : decode M_BlockReader_readPick.2.1 8 = .ok (.istore_n 2, 1) := by decide +kernel
theorem d_BlockReader_readPick_9 : decode M_BlockReader_readPick.2.1 9 = .ok (.iload_n 2, 1) := by decide +kernel
theorem d_BlockReader_readPick_10 : decode M_BlockReader_readPick.2.1 10 = .ok (.iload_n 1, 1) := by decide +kernel
theorem d_BlockReader_readPick_11 : decode M_BlockReader_readPick.2.1 11 = .ok (.if_icmp .ge 31, 3) := by decide +kernel
theorem d_BlockReader_readPick_14 : decode M_BlockReader_readPick.2.1 14 = .ok (.aload_n 0, 1) := by decide +kernel
theorem d_BlockReader_readPick_15 : decode M_BlockReader_readPick.2.1 15 = .ok (.getfield 35, 3) := by decide +kernel
theorem d_BlockReader_readPick_18 : decode M_BlockReader_readPick.2.1 18 = .ok (.invokevirtual 135, 3) := by decide +kernel
theorem d_BlockReader_readPick_21 : decode M_BlockReader_readPick.2.1 21 = .ok (.istore_n 3, 1) := by decide +kernel
theorem d_BlockReader_readPick_22 : decode M_BlockReader_readPick.2.1 22 = .ok (.iload_n 3, 1) := by decide +kernel
theorem d_BlockReader_readPick_23 : decode M_BlockReader_readPick.2.1 23 = .ok (.ifCond .gt 13, 3) := by decide +kernel
theorem d_BlockReader_readPick_26 : decode M_BlockReader_readPick.2.1 26 = .ok (.iload_n 3, 1) := by decide +kernel
theorem d_BlockReader_readPick_27 : decode M_BlockReader_readPick.2.1 27 = .ok (.ifCond .ge 7, 3) := by decide +kernel
theorem d_BlockReader_readPick_30 : decode M_BlockReader_readPick.2.1 30 = .ok (.iload_n 3, 1) := by decide +kernel
theorem d_BlockReader_readPick_31 : decode M_BlockReader_readPick.2.1 31 = .ok (.goto 4, 3) := by decide +kernel
theorem d_BlockReader_readPick_34 : decode M_BlockReader_readPick.2.1 34 = .ok (.iload_n 2, 1) := by decide +kernel
theorem d_BlockReader_readPick_35 : decode M_BlockReader_readPick.2.1 35 = .ok (.ireturn, 1) := by decide +kernel
theorem d_BlockReader_readPick_36 : decode M_BlockReader_readPick.2.1 36 = .ok (.iinc 2 1, 3) := by decide +kernel
theorem d_BlockReader_readPick_39 : decode M_BlockReader_readPick.2.1 39 = .ok (.goto (-30), 3) := by decide +kernel
theorem d_BlockReader_readPick_42 : decode M_BlockReader_readPick.2.1 42 = .ok (.bipush (-8), 2) := by decide +kernel
theorem d_BlockReader_readPick_44 : decode M_BlockReader_readPick.2.1 44 = .ok (.ireturn, 1) := by decide +kernel
theorem d_BlockReader_readTables_0 : decode M_BlockReader_readTables.2.1 0 = .ok (.iconst 0, 1) := by decide +kernel
theorem d_BlockReader_readTables_1 : decode M_BlockReader_readTables.2.1 1 = .ok (.istore_n 2, 1) := by decide +kernel
theorem d_BlockReader_readTables_2 : decode M_BlockReader_readTables.2.1 2 = .ok (.iload_n 2, 1) := by decide +kernel
theorem d_BlockReader_readTables_3 : decode M_BlockReader_readTables.2.1 3 = .ok (.aload_n 1, 1) := by decide +kernel
theorem d_BlockReader_readTables_4 : decode M_BlockReader_readTables.2.1 4 = .ok (.getfield 114, 3) := by decide +kernel
theorem d_BlockReader_readTables_7 : decode M_BlockReader_readTables.2.1 7 = .ok (.if_icmp .ge 49, 3) := by decide +kernel
theorem d_BlockReader_readTables_10 : decode M_BlockReader_readTables.2.1 10 = .ok (.aload_n 0, 1) := by decide +kernel
theorem d_BlockReader_readTables_11 : decode M_BlockReader_readTables.2.1 11 = .ok (.aload_n 1, 1) := by decide +kernel
theorem d_BlockReader_readTables_12 : decode M_BlockReader_readTables.2.1 12 = .ok (.getfield 139, 3) := by decide +kernel
theorem d_BlockReader_readTables_15 : decode M_BlockReader_readTables.2.1 15 = .ok (.iload_n 2, 1) := by decide +kernel
theorem d_BlockReader_readTables_16 : decode M_BlockReader_readTables.2.1 16 = .ok (.aaload, 1) := by decide +kernel
theorem d_BlockReader_readTables_17 : decode M_BlockReader_readTables.2.1 17 = .ok (.aload_n 1, 1) := by decide +kernel
theorem d_BlockReader_readTables_18 : decode M_BlockReader_readTables.2.1 18 = .ok (.invokevirtual 143, 3) := by decide +kernel
theorem d_BlockReader_readTables_21 : decode M_BlockReader_readTables.2.1 21 = .ok (.invokevirtual 146, 3) := by decide +kernel
theorem d_BlockReader_readTables_24 : decode M_BlockReader_readTables.2.1 24 = .ok (.istore_n 3, 1) := by decide +kernel
theorem d_BlockReader_readTables_25 : decode M_BlockReader_readTables.2.1 25 = .ok (.iload_n 3, 1) := by decide +kernel
theorem d_BlockReader_readTables_26 : decode M_BlockReader_readTables.2.1 26 = .ok (.ifCond .eq 5, 3) := by decide +kernel
theorem d_BlockReader_readTables_29 : decode M_BlockReader_readTables.2.1 29 = .ok (.iload_n 3, 1) := by decide +kernel
theorem d_BlockReader_readTables_30 : decode M_BlockReader_readTables.2.1 30 = .ok (.ireturn, 1) := by decide +kernel
theorem d_BlockReader_readTables_31 : decode M_BlockReader_readTables.2.1 31 = .ok (.aload_n 0, 1) := by decide +kernel
theorem d_BlockReader_readTables_32 : decode M_BlockReader_readTables.2.1 32 = .ok (.getfield 20, 3) := by decide +kernel
theorem d_BlockReader_readTables_35 : decode M_BlockReader_readTables.2.1 35 = .ok (.iload_n 2, 1) := by decide +kernel
theorem d_BlockReader_readTables_36 : decode M_BlockReader_readTables.2.1 36 = .ok (.aaload, 1) := by decide +kernel
theorem d_BlockReader_readTables_37 : decode M_BlockReader_readTables.2.1 37 = .ok (.aload_n 1, 1) := by decide +kernel
theorem d_BlockReader_readTables_38 : decode M_BlockReader_readTables.2.1 38 = .ok (.getfield 139, 3) := by decide +kernel
theorem d_BlockReader_readTables_41 : decode M_BlockReader_readTables.2.1 41 = .ok (.iload_n 2, 1) := by decide +kernel
theorem d_BlockReader_readTables_42 : decode M_BlockReader_readTables.2.1 42 = .ok (.aaload, 1) := by decide +kernel
theorem d_BlockReader_readTables_43 : decode M_BlockReader_readTables.2.1 43 = .ok (.aload_n 1, 1) := by decide +kernel
theorem d_BlockReader_readTables_44 : decode M_BlockReader_readTables.2.1 44 = .ok (.invokevirtual 143, 3) := by decide +kernel
theorem d_BlockReader_readTables_47 : decode M_BlockReader_readTables.2.1 47 = .ok (.invokevirtual 150, 3) := by decide +kernel
theorem d_BlockReader_readTables_50 : decode M_BlockReader_readTables.2.1 50 = .ok (.iinc 2 1, 3) := by decide +kernel
theorem d_BlockReader_readTables_53 : decode M_BlockReader_readTables.2.1 53 = .ok (.goto (-51), 3) := by decide +kernel
theorem d_BlockReader_readTables_56 : decode M_BlockReader_readTables.2.1 56 = .ok (.iconst 0, 1) := by decide +kernel
theorem d_BlockReader_readTables_57 : decode M_BlockReader_readTables.2.1 57 = .ok (.ireturn, 1) := by decide +kernel
theorem d_BlockReader_readLengths_0 : decode M_BlockReader_readLengths.2.1 0 = .ok (.aload_n 0, 1) := by decide +kernel
theorem d_BlockReader_readLengths_1 : decode M_BlockReader_readLengths.2.1 1 = .ok (.getfield 35, 3) := by decide +kernel
theorem d_BlockReader_readLengths_4 : decode M_BlockReader_readLengths.2.1 4 = .ok (.iconst 5, 1) := by decide +kernel
theorem d_BlockReader_readLengths_5 : decode M_BlockReader_readLengths.2.1 5 = .ok (.invokevirtual 94, 3) := by decide +kernel
theorem d_BlockReader_readLengths_8 : decode M_BlockReader_readLengths.2.1 8 = .ok (.istore_n 3, 1) := by decide +kernel
theorem d_BlockReader_readLengths_9 : decode M_BlockReader_readLengths.2.1 9 = .ok (.iload_n 3, 1) := by decide +kernel
theorem d_BlockReader_readLengths_10 : decode M_BlockReader_readLengths.2.1 10 = .ok (.ifCond .lt 13, 3) := by decide +kernel
theorem d_BlockReader_readLengths_13 : decode M_BlockReader_readLengths.2.1 13 = .ok (.iload_n 3, 1) := by decide +kernel
theorem d_BlockReader_readLengths_14 : decode M_BlockReader_readLengths.2.1 14 = .ok (.invokestatic 154, 3) := by decide +kernel
theorem d_BlockReader_readLengths_17 : decode M_BlockReader_readLengths.2.1 17 = .ok (.ifCond .ne 6, 3) := by decide +kernel
theorem d_BlockReader_readLengths_20 : decode M_BlockReader_readLengths.2.1 20 = .ok (.bipush (-9), 2) := by decide +kernel
theorem d_BlockReader_readLengths_22 : decode M_BlockReader_readLengths.2.1 22 = .ok (.ireturn, 1) := by decide +kernel
theorem d_BlockReader_readLengths_23 : decode M_BlockReader_readLengths.2.1 23 = .ok (.iconst 0, 1) := by decide +kernel
theorem d_BlockReader_readLengths_24 : decode M_BlockReader_readLengths.2.1 24 = .ok (.istore 4, 2) := by decide +kernel
theorem d_BlockReader_readLengths_26 : decode M_BlockReader_readLengths.2.1 26 = .ok (.iload 4, 2) := by decide +kernel
theorem d_BlockReader_readLengths_28 : decode M_BlockReader_readLengths.2.1 28 = .ok (.iload_n 2, 1) := by decide +kernel
theorem d_BlockReader_readLengths_29 : decode M_BlockReader_readLengths.2.1 29 = .ok (.if_icmp .ge 24, 3) := by decide +kernel
theorem d_BlockReader_readLengths_32 : decode M_BlockReader_readLengths.2.1 32 = .ok (.iload_n 3, 1) := by decide +kernel
theorem d_BlockReader_readLengths_33 : decode M_BlockReader_readLengths.2.1 33 = .ok (.ifCond .le 20, 3) := by decide +kernel
theorem d_BlockReader_readLengths_36 : decode M_BlockReader_readLengths.2.1 36 = .ok (.aload_n 0, 1) := by decide +kernel
theorem d_BlockReader_readLengths_37 : decode M_BlockReader_readLengths.2.1 37 = .ok (.iload_n 3, 1) := by decide +kernel
theorem d_BlockReader_readLengths_38 : decode M_BlockReader_readLengths.2.1 38 = .ok (.invokevirtual 158, 3) := by decide +kernel
theorem d_BlockReader_readLengths_41 : decode M_BlockReader_readLengths.2.1 41 = .ok (.istore_n 3, 1) := by decide +kernel
theorem d_BlockReader_readLengths_42 : decode M_BlockReader_readLengths.2.1 42 = .ok (.aload_n 1, 1) := by decide +kernel
theorem d_BlockReader_readLengths_43 : decode M_BlockReader_readLengths.2.1 43 = .ok (.iload 4, 2) := by decide +kernel
theorem d_BlockReader_readLengths_45 : decode M_BlockReader_readLengths.2.1 45 = .ok (.iload_n 3, 1) := by decide +kernel
theorem d_BlockReader_readLengths_46 : decode M_BlockReader_readLengths.2.1 46 = .ok (.iastore, 1) := by decide +kernel
theorem d_BlockReader_readLengths_47 : decode M_BlockReader_readLengths.2.1 47 = .ok (.iinc 4 1, 3) := by decide +kernel
theorem d_BlockReader_readLengths_50 : decode M_BlockReader_readLengths.2.1 50 = .ok (.goto (-24), 3) := by decide +kernel
theorem d_BlockReader_readLengths_53 : decode M_BlockReader_readLengths.2.1 53 = .ok (.iload_n 3, 1) := by decide +kernel
theorem d_BlockReader_readLengths_54 : decode M_BlockReader_readLengths.2.1 54 = .ok (.ifCond .ge 7, 3) := by decide +kernel
theorem d_BlockReader_readLengths_57 : decode M_BlockReader_readLengths.2.1 57 = .ok (.iload_n 3, 1) := by decide +kernel
theorem d_BlockReader_readLengths_58 : decode M_BlockReader_readLengths.2.1 58 = .ok (.goto 4, 3) := by decide +kernel
theorem d_BlockReader_readLengths_61 : decode M_BlockReader_readLengths.2.1 61 = .ok (.iconst 0, 1) := by decide +kernel
theorem d_BlockReader_readLengths_62 : decode M_BlockReader_readLengths.2.1 62 = .ok (.ireturn, 1) := by decide +kernel
theorem d_BlockReader_readLength_0 : decode M_BlockReader_readLength.2.1 0 = .ok (.iload_n 1, 1) := by decide +kernel
theorem d_BlockReader_readLength_1 : decode M_BlockReader_readLength.2.1 1 = .ok (.istore_n 2, 1) := by decide +kernel
theorem d_BlockReader_readLength_2 : decode M_BlockReader_readLength.2.1 2 = .ok (.iconst 0, 1) := by decide +kernel
theorem d_BlockReader_readLength_3 : decode M_BlockReader_readLength.2.1 3 = .ok (.istore_n 3, 1) := by decide +kernel
theorem d_BlockReader_readLength_4 : decode M_BlockReader_readLength.2.1 4 = .ok (.iload_n 3, 1) := by decide +kernel
theorem d_BlockReader_readLength_5 : decode M_BlockReader_readLength.2.1 5 = .ok (.sipush 3200, 3) := by decide +kernel
theorem d_BlockReader_readLength_8 : decode M_BlockReader_readLength.2.1 8 = .ok (.if_icmp .ge 82, 3) := by decide +kernel
theorem d_BlockReader_readLength_11 : decode M_BlockReader_readLength.2.1 11 = .ok (.aload_n 0, 1) := by decide +kernel
theorem d_BlockReader_readLength_12 : decode M_BlockReader_readLength.2.1 12 = .ok (.getfield 35, 3) := by decide +kernel
theorem d_BlockReader_readLength_15 : decode M_BlockReader_readLength.2.1 15 = .ok (.invokevirtual 132, 3) := by decide +kernel
theorem d_BlockReader_readLength_18 : decode M_BlockReader_readLength.2.1 18 = .ok (.aload_n 0, 1) := by decide +kernel
theorem d_BlockReader_readLength_19 : decode M_BlockReader_readLength.2.1 19 = .ok (.getfield 35, 3) := by decide +kernel
theorem d_BlockReader_readLength_22 : decode M_BlockReader_readLength.2.1 22 = .ok (.invokevirtual 135, 3) := by decide +kernel
theorem d_BlockReader_readLength_25 : decode M_BlockReader_readLength.2.1 25 = .ok (.istore 4, 2) := by decide +kernel
theorem d_BlockReader_readLength_27 : decode M_BlockReader_readLength.2.1 27 = .ok (.iload 4, 2) := by decide +kernel
theorem d_BlockReader_readLength_29 : decode M_BlockReader_readLength.2.1 29 = .ok (.ifCond .gt 15, 3) := by decide +kernel
theorem d_BlockReader_readLength_32 : decode M_BlockReader_readLength.2.1 32 = .ok (.iload 4, 2) := by decide +kernel
theorem d_BlockReader_readLength_34 : decode M_BlockReader_readLength.2.1 34 = .ok (.ifCond .ge 8, 3) := by decide +kernel
theorem d_BlockReader_readLength_37 : decode M_BlockReader_readLength.2.1 37 = .ok (.iload 4, 2) := by decide +kernel
theorem d_BlockReader_readLength_39 : decode M_BlockReader_readLength.2.1 39 = .ok (.goto 4, 3) := by decide +kernel
theorem d_BlockReader_readLength_42 : decode M_BlockReader_readLength.2.1 42 = .ok (.iload_n 2, 1) := by decide +kernel
theorem d_BlockReader_readLength_43 : decode M_BlockReader_readLength.2.1 43 = .ok (.ireturn, 1) := by decide +kernel
theorem d_BlockReader_readLength_44 : decode M_BlockReader_readLength.2.1 44 = .ok (.aload_n 0, 1) := by decide +kernel
theorem d_BlockReader_readLength_45 : decode M_BlockReader_readLength.2.1 45 = .ok (.getfield 35, 3) := by decide +kernel
theorem d_BlockReader_readLength_48 : decode M_BlockReader_readLength.2.1 48 = .ok (.invokevirtual 135, 3) := by decide +kernel
theorem d_BlockReader_readLength_51 : decode M_BlockReader_readLength.2.1 51 = .ok (.istore 5, 2) := by decide +kernel
theorem d_BlockReader_readLength_53 : decode M_BlockReader_readLength.2.1 53 = .ok (.iload 5, 2) := by decide +kernel
theorem d_BlockReader_readLength_55 : decode M_BlockReader_readLength.2.1 55 = .ok (.ifCond .ge 6, 3) := by decide +kernel
theorem d_BlockReader_readLength_58 : decode M_BlockReader_readLength.2.1 58 = .ok (.iload 5, 2) := by decide +kernel
theorem d_BlockReader_readLength_60 : decode M_BlockReader_readLength.2.1 60 = .ok (.ireturn, 1) := by decide +kernel
theorem d_BlockReader_readLength_61 : decode M_BlockReader_readLength.2.1 61 = .ok (.iload_n 2, 1) := by decide +kernel
theorem d_BlockReader_readLength_62 : decode M_BlockReader_readLength.2.1 62 = .ok (.iload 5, 2) := by decide +kernel
theorem d_BlockReader_readLength_64 : decode M_BlockReader_readLength.2.1 64 = .ok (.ifCond .ne 7, 3) := by decide +kernel
theorem d_BlockReader_readLength_67 : decode M_BlockReader_readLength.2.1 67 = .ok (.iconst 1, 1) := by decide +kernel
theorem d_BlockReader_readLength_68 : decode M_BlockReader_readLength.2.1 68 = .ok (.goto 4, 3) := by decide +kernel
theorem d_BlockReader_readLength_71 : decode M_BlockReader_readLength.2.1 71 = .ok (.iconst (-1), 1) := by decide +kernel
theorem d_BlockReader_readLength_72 : decode M_BlockReader_readLength.2.1 72 = .ok (.iadd, 1) := by decide +kernel
theorem d_BlockReader_readLength_73 : decode M_BlockReader_readLength.2.1 73 = .ok (.istore_n 2, 1) := by decide +kernel
theorem d_BlockReader_readLength_74 : decode M_BlockReader_readLength.2.1 74 = .ok (.iload_n 2, 1) := by decide +kernel
theorem d_BlockReader_readLength_75 : decode M_BlockReader_readLength.2.1 75 = .ok (.invokestatic 154, 3) := by decide +kernel
theorem d_BlockReader_readLength_78 : decode M_BlockReader_readLength.2.1 78 = .ok (.ifCond .ne 6, 3) := by decide +kernel
theorem d_BlockReader_readLength_81 : decode M_BlockReader_readLength.2.1 81 = .ok (.bipush (-9), 2) := by decide +kernel
theorem d_BlockReader_readLength_83 : decode M_BlockReader_readLength.2.1 83 = .ok (.ireturn, 1) := by decide +kernel
theorem d_BlockReader_readLength_84 : decode M_BlockReader_readLength.2.1 84 = .ok (.iinc 3 1, 3) := by decide +kernel
theorem d_BlockReader_readLength_87 : decode M_BlockReader_readLength.2.1 87 = .ok (.goto (-83), 3) := by decide +kernel
theorem d_BlockReader_readLength_90 : decode M_BlockReader_readLength.2.1 90 = .ok (.bipush (-2), 2) := by decide +kernel
theorem d_BlockReader_readLength_92 : decode M_BlockReader_readLength.2.1 92 = .ok (.ireturn, 1) := by decide +kernel
theorem d_BlockReader_readSymbols_0 : decode M_BlockReader_readSymbols.2.1 0 = .ok (.aload_n 0, 1) := by decide +kernel
theorem d_BlockReader_readSymbols_1 : decode M_BlockReader_readSymbols.2.1 1 = .ok (.getfield 12, 3) := by decide +kernel
theorem d_BlockReader_readSymbols_4 : decode M_BlockReader_readSymbols.2.1 4 = .ok (.aload_n 1, 1) := by decide +kernel
theorem d_BlockReader_readSymbols_5 : decode M_BlockReader_readSymbols.2.1 5 = .ok (.getfield 161, 3) := by decide +kernel
theorem d_BlockReader_readSymbols_8 : decode M_BlockReader_readSymbols.2.1 8 = .ok (.aload_n 1, 1) := by decide +kernel
theorem d_BlockReader_readSymbols_9 : decode M_BlockReader_readSymbols.2.1 9 = .ok (.getfield 101, 3) := by decide +kernel
theorem d_BlockReader_readSymbols_12 : decode M_BlockReader_readSymbols.2.1 12 = .ok (.invokevirtual 164, 3) := by decide +kernel
theorem d_BlockReader_readSymbols_15 : decode M_BlockReader_readSymbols.2.1 15 = .ok (.aload_n 1, 1) := by decide +kernel
theorem d_BlockReader_readSymbols_16 : decode M_BlockReader_readSymbols.2.1 16 = .ok (.iconst 0, 1) := by decide +kernel
theorem d_BlockReader_readSymbols_17 : decode M_BlockReader_readSymbols.2.1 17 = .ok (.putfield 165, 3) := by decide +kernel
theorem d_BlockReader_readSymbols_20 : decode M_BlockReader_readSymbols.2.1 20 = .ok (.aload_n 1, 1) := by decide +kernel
theorem d_BlockReader_readSymbols_21 : decode M_BlockReader_readSymbols.2.1 21 = .ok (.iconst 0, 1) := by decide +kernel
theorem d_BlockReader_readSymbols_22 : decode M_BlockReader_readSymbols.2.1 22 = .ok (.putfield 168, 3) := by decide +kernel
theorem d_BlockReader_readSymbols_25 : decode M_BlockReader_readSymbols.2.1 25 = .ok (.aload_n 0, 1) := by decide +kernel
theorem d_BlockReader_readSymbols_26 : decode M_BlockReader_readSymbols.2.1 26 = .ok (.iconst 1, 1) := by decide +kernel
theorem d_BlockReader_readSymbols_27 : decode M_BlockReader_readSymbols.2.1 27 = .ok (.putfield 31, 3) := by decide +kernel
theorem d_BlockReader_readSymbols_30 : decode M_BlockReader_readSymbols.2.1 30 = .ok (.iconst 0, 1) := by decide +kernel
theorem d_BlockReader_readSymbols_31 : decode M_BlockReader_readSymbols.2.1 31 = .ok (.istore_n 3, 1) := by decide +kernel
theorem d_BlockReader_readSymbols_32 : decode M_BlockReader_readSymbols.2.1 32 = .ok (.iload_n 3, 1) := by decide +kernel
theorem d_BlockReader_readSymbols_33 : decode M_BlockReader_readSymbols.2.1 33 = .ok (.bipush 8, 2) := by decide +kernel
theorem d_BlockReader_readSymbols_35 : decode M_BlockReader_readSymbols.2.1 35 = .ok (.aload_n 1, 1) := by decide +kernel
theorem d_BlockReader_readSymbols_36 : decode M_BlockReader_readSymbols.2.1 36 = .ok (.getfield 117, 3) := by decide +kernel
theorem d_BlockReader_readSymbols_39 : decode M_BlockReader_readSymbols.2.1 39 = .ok (.imul, 1) := by decide +kernel
theorem d_BlockReader_readSymbols_40 : decode M_BlockReader_readSymbols.2.1 40 = .ok (.if_icmp .ge 64, 3) := by decide +kernel
theorem d_BlockReader_readSymbols_43 : decode M_BlockReader_readSymbols.2.1 43 = .ok (.aload_n 0, 1) := by decide +kernel
theorem d_BlockReader_readSymbols_44 : decode M_BlockReader_readSymbols.2.1 44 = .ok (.aload_n 0, 1) := by decide +kernel
theorem d_BlockReader_readSymbols_45 : decode M_BlockReader_readSymbols.2.1 45 = .ok (.getfield 20, 3) := by decide +kernel
theorem d_BlockReader_readSymbols_48 : decode M_BlockReader_readSymbols.2.1 48 = .ok (.aload_n 1, 1) := by decide +kernel
theorem d_BlockReader_readSymbols_49 : decode M_BlockReader_readSymbols.2.1 49 = .ok (.iload_n 3, 1) := by decide +kernel
theorem d_BlockReader_readSymbols_50 : decode M_BlockReader_readSymbols.2.1 50 = .ok (.invokevirtual 169, 3) := by decide +kernel
theorem d_BlockReader_readSymbols_53 : decode M_BlockReader_readSymbols.2.1 53 = .ok (.aaload, 1) := by decide +kernel
theorem d_BlockReader_readSymbols_54 : decode M_BlockReader_readSymbols.2.1 54 = .ok (.invokevirtual 172, 3) := by decide +kernel
theorem d_BlockReader_readSymbols_57 : decode M_BlockReader_readSymbols.2.1 57 = .ok (.istore 4, 2) := by decide +kernel
theorem d_BlockReader_readSymbols_59 : decode M_BlockReader_readSymbols.2.1 59 = .ok (.iload 4, 2) := by decide +kernel
theorem d_BlockReader_readSymbols_61 : decode M_BlockReader_readSymbols.2.1 61 = .ok (.ifCond .ge 6, 3) := by decide +kernel
theorem d_BlockReader_readSymbols_64 : decode M_BlockReader_readSymbols.2.1 64 = .ok (.iload 4, 2) := by decide +kernel
theorem d_BlockReader_readSymbols_66 : decode M_BlockReader_readSymbols.2.1 66 = .ok (.ireturn, 1) := by decide +kernel
theorem d_BlockReader_readSymbols_67 : decode M_BlockReader_readSymbols.2.1 67 = .ok (.aload_n 1, 1) := by decide +kernel
theorem d_BlockReader_readSymbols_68 : decode M_BlockReader_readSymbols.2.1 68 = .ok (.iload 4, 2) := by decide +kernel
theorem d_BlockReader_readSymbols_70 : decode M_BlockReader_readSymbols.2.1 70 = .ok (.invokevirtual 176, 3) := by decide +kernel
theorem d_BlockReader_readSymbols_73 : decode M_BlockReader_readSymbols.2.1 73 = .ok (.iload 4, 2) := by decide +kernel
theorem d_BlockReader_readSymbols_75 : decode M_BlockReader_readSymbols.2.1 75 = .ok (.aload_n 1, 1) := by decide +kernel
theorem d_BlockReader_readSymbols_76 : decode M_BlockReader_readSymbols.2.1 76 = .ok (.invokevirtual 179, 3) := by decide +kernel
theorem d_BlockReader_readSymbols_79 : decode M_BlockReader_readSymbols.2.1 79 = .ok (.if_icmp .ne 5, 3) := by decide +kernel
theorem d_BlockReader_readSymbols_82 : decode M_BlockReader_readSymbols.2.1 82 = .ok (.iconst 0, 1) := by decide +kernel
theorem d_BlockReader_readSymbols_83 : decode M_BlockReader_readSymbols.2.1 83 = .ok (.ireturn, 1) := by decide +kernel
theorem d_BlockReader_readSymbols_84 : decode M_BlockReader_readSymbols.2.1 84 = .ok (.aload_n 0, 1) := by decide +kernel
theorem d_BlockReader_readSymbols_85 : decode M_BlockReader_readSymbols.2.1 85 = .ok (.aload_n 1, 1) := by decide +kernel
theorem d_BlockReader_readSymbols_86 : decode M_BlockReader_readSymbols.2.1 86 = .ok (.iload 4, 2) := by decide +kernel
theorem d_BlockReader_readSymbols_88 : decode M_BlockReader_readSymbols.2.1 88 = .ok (.iload_n 2, 1) := by decide +kernel
theorem d_BlockReader_readSymbols_89 : decode M_BlockReader_readSymbols.2.1 89 = .ok (.invokevirtual 182, 3) := by decide +kernel
theorem d_BlockReader_readSymbols_92 : decode M_BlockReader_readSymbols.2.1 92 = .ok (.ifCond .ne 6, 3) := by decide +kernel
theorem d_BlockReader_readSymbols_95 : decode M_BlockReader_readSymbols.2.1 95 = .ok (.bipush (-11), 2) := by decide +kernel
theorem d_BlockReader_readSymbols_97 : decode M_BlockReader_readSymbols.2.1 97 = .ok (.ireturn, 1) := by decide +kernel
theorem d_BlockReader_readSymbols_98 : decode M_BlockReader_readSymbols.2.1 98 = .ok (.iinc 3 1, 3) := by decide +kernel
theorem d_BlockReader_readSymbols_101 : decode M_BlockReader_readSymbols.2.1 101 = .ok (.goto (-69), 3) := by decide +kernel
theorem d_BlockReader_readSymbols_104 : decode M_BlockReader_readSymbols.2.1 104 = .ok (.aload_n 0, 1) := by decide +kernel
theorem d_BlockReader_readSymbols_105 : decode M_BlockReader_readSymbols.2.1 105 = .ok (.getfield 35, 3) := by decide +kernel
theorem d_BlockReader_readSymbols_108 : decode M_BlockReader_readSymbols.2.1 108 = .ok (.invokevirtual 132, 3) := by decide +kernel
theorem d_BlockReader_readSymbols_111 : decode M_BlockReader_readSymbols.2.1 111 = .ok (.bipush (-11), 2) := by decide +kernel
theorem d_BlockReader_readSymbols_113 : decode M_BlockReader_readSymbols.2.1 113 = .ok (.ireturn, 1) := by decide +kernel
theorem d_BlockReader_readSymbol_0 : decode M_BlockReader_readSymbol.2.1 0 = .ok (.aload_n 0, 1) := by decide +kernel
theorem d_BlockReader_readSymbol_1 : decode M_BlockReader_readSymbol.2.1 1 = .ok (.getfield 35, 3) := by decide +kernel
theorem d_BlockReader_readSymbol_4 : decode M_BlockReader_readSymbol.2.1 4 = .ok (.invokevirtual 132, 3) := by decide +kernel
theorem d_BlockReader_readSymbol_7 : decode M_BlockReader_readSymbol.2.1 7 = .ok (.iconst 0, 1) := by decide +kernel
theorem d_BlockReader_readSymbol_8 : decode M_BlockReader_readSymbol.2.1 8 = .ok (.istore_n 2, 1) := by decide +kernel
theorem d_BlockReader_readSymbol_9 : decode M_BlockReader_readSymbol.2.1 9 = .ok (.iconst 1, 1) := by decide +kernel
theorem d_BlockReader_readSymbol_10 : decode M_BlockReader_readSymbol.2.1 10 = .ok (.istore_n 3, 1) := by decide +kernel
theorem d_BlockReader_readSymbol_11 : decode M_BlockReader_readSymbol.2.1 11 = .ok (.iload_n 3, 1) := by decide +kernel
theorem d_BlockReader_readSymbol_12 : decode M_BlockReader_readSymbol.2.1 12 = .ok (.bipush 12, 2) := by decide +kernel
theorem d_BlockReader_readSymbol_14 : decode M_BlockReader_readSymbol.2.1 14 = .ok (.if_icmp .gt 49, 3) := by decide +kernel
theorem d_BlockReader_readSymbol_17 : decode M_BlockReader_readSymbol.2.1 17 = .ok (.aload_n 0, 1) := by decide +kernel
theorem d_BlockReader_readSymbol_18 : decode M_BlockReader_readSymbol.2.1 18 = .ok (.getfield 35, 3) := by decide +kernel
theorem d_BlockReader_readSymbol_21 : decode M_BlockReader_readSymbol.2.1 21 = .ok (.invokevirtual 135, 3) := by decide +kernel
theorem d_BlockReader_readSymbol_24 : decode M_BlockReader_readSymbol.2.1 24 = .ok (.istore 4, 2) := by decide +kernel
theorem d_BlockReader_readSymbol_26 : decode M_BlockReader_readSymbol.2.1 26 = .ok (.iload 4, 2) := by decide +kernel
theorem d_BlockReader_readSymbol_28 : decode M_BlockReader_readSymbol.2.1 28 = .ok (.ifCond .ge 6, 3) := by decide +kernel
theorem d_BlockReader_readSymbol_31 : decode M_BlockReader_readSymbol.2.1 31 = .ok (.iload 4, 2) := by decide +kernel
theorem d_BlockReader_readSymbol_33 : decode M_BlockReader_readSymbol.2.1 33 = .ok (.ireturn, 1) := by decide +kernel
theorem d_BlockReader_readSymbol_34 : decode M_BlockReader_readSymbol.2.1 34 = .ok (.iload_n 2, 1) := by decide +kernel
theorem d_BlockReader_readSymbol_35 : decode M_BlockReader_readSymbol.2.1 35 = .ok (.iconst 1, 1) := by decide +kernel
theorem d_BlockReader_readSymbol_36 : decode M_BlockReader_readSymbol.2.1 36 = .ok (.ishl, 1) := by decide +kernel
theorem d_BlockReader_readSymbol_37 : decode M_BlockReader_readSymbol.2.1 37 = .ok (.iload 4, 2) := by decide +kernel
theorem d_BlockReader_readSymbol_39 : decode M_BlockReader_readSymbol.2.1 39 = .ok (.ior, 1) := by decide +kernel
theorem d_BlockReader_readSymbol_40 : decode M_BlockReader_readSymbol.2.1 40 = .ok (.istore_n 2, 1) := by decide +kernel
theorem d_BlockReader_readSymbol_41 : decode M_BlockReader_readSymbol.2.1 41 = .ok (.aload_n 1, 1) := by decide +kernel
theorem d_BlockReader_readSymbol_42 : decode M_BlockReader_readSymbol.2.1 42 = .ok (.iload_n 2, 1) := by decide +kernel
theorem d_BlockReader_readSymbol_43 : decode M_BlockReader_readSymbol.2.1 43 = .ok (.iload_n 3, 1) := by decide +kernel
theorem d_BlockReader_readSymbol_44 : decode M_BlockReader_readSymbol.2.1 44 = .ok (.invokevirtual 186, 3) := by decide +kernel
theorem d_BlockReader_readSymbol_47 : decode M_BlockReader_readSymbol.2.1 47 = .ok (.istore 5, 2) := by decide +kernel
theorem d_BlockReader_readSymbol_49 : decode M_BlockReader_readSymbol.2.1 49 = .ok (.iload 5, 2) := by decide +kernel
theorem d_BlockReader_readSymbol_51 : decode M_BlockReader_readSymbol.2.1 51 = .ok (.ifCond .lt 6, 3) := by decide +kernel
theorem d_BlockReader_readSymbol_54 : decode M_BlockReader_readSymbol.2.1 54 = .ok (.iload 5, 2) := by decide +kernel
theorem d_BlockReader_readSymbol_56 : decode M_BlockReader_readSymbol.2.1 56 = .ok (.ireturn, 1) := by decide +kernel
theorem d_BlockReader_readSymbol_57 : decode M_BlockReader_readSymbol.2.1 57 = .ok (.iinc 3 1, 3) := by decide +kernel
theorem d_BlockReader_readSymbol_60 : decode M_BlockReader_readSymbol.2.1 60 = .ok (.goto (-49), 3) := by decide +kernel
theorem d_BlockReader_readSymbol_63 : decode M_BlockReader_readSymbol.2.1 63 = .ok (.bipush (-10), 2) := by decide +kernel
theorem d_BlockReader_readSymbol_65 : decode M_BlockReader_readSymbol.2.1 65 = .ok (.ireturn, 1) := by decide +kernel
theorem d_BlockReader_addBytes_0 : decode M_BlockReader_addBytes.2.1 0 = .ok (.iload_n 2, 1) := by decide +kernel
theorem d_BlockReader_addBytes_1 : decode M_BlockReader_addBytes.2.1 1 = .ok (.iconst 2, 1) := by decide +kernel
theorem d_BlockReader_addBytes_2 : decode M_BlockReader_addBytes.2.1 2 = .ok (.if_icmp .ge 7, 3) := by decide +kernel
theorem d_BlockReader_addBytes_5 : decode M_BlockReader_addBytes.2.1 5 = .ok (.iconst 1, 1) := by decide +kernel
theorem d_BlockReader_addBytes_6 : decode M_BlockReader_addBytes.2.1 6 = .ok (.goto 4, 3) := by decide +kernel
theorem d_BlockReader_addBytes_9 : decode M_BlockReader_addBytes.2.1 9 = .ok (.iconst 0, 1) := by decide +kernel
theorem d_BlockReader_addBytes_10 : decode M_BlockReader_addBytes.2.1 10 = .ok (.istore 4, 2) := by decide +kernel
theorem d_BlockReader_addBytes_12 : decode M_BlockReader_addBytes.2.1 12 = .ok (.iload 4, 2) := by decide +kernel
theorem d_BlockReader_addBytes_14 : decode M_BlockReader_addBytes.2.1 14 = .ok (.ifCond .eq 12, 3) := by decide +kernel
theorem d_BlockReader_addBytes_17 : decode M_BlockReader_addBytes.2.1 17 = .ok (.aload_n 0, 1) := by decide +kernel
theorem d_BlockReader_addBytes_18 : decode M_BlockReader_addBytes.2.1 18 = .ok (.getfield 31, 3) := by decide +kernel
theorem d_BlockReader_addBytes_21 : decode M_BlockReader_addBytes.2.1 21 = .ok (.iload_n 2, 1) := by decide +kernel
theorem d_BlockReader_addBytes_22 : decode M_BlockReader_addBytes.2.1 22 = .ok (.ishl, 1) := by decide +kernel
theorem d_BlockReader_addBytes_23 : decode M_BlockReader_addBytes.2.1 23 = .ok (.goto 4, 3) := by decide +kernel
theorem d_BlockReader_addBytes_26 : decode M_BlockReader_addBytes.2.1 26 = .ok (.iconst 1, 1) := by decide +kernel
theorem d_BlockReader_addBytes_27 : decode M_BlockReader_addBytes.2.1 27 = .ok (.istore 5, 2) := by decide +kernel
theorem d_BlockReader_addBytes_29 : decode M_BlockReader_addBytes.2.1 29 = .ok (.aload_n 1, 1) := by decide +kernel
theorem d_BlockReader_addBytes_30 : decode M_BlockReader_addBytes.2.1 30 = .ok (.getfield 168, 3) := by decide +kernel
theorem d_BlockReader_addBytes_33 : decode M_BlockReader_addBytes.2.1 33 = .ok (.iload 5, 2) := by decide +kernel
theorem d_BlockReader_addBytes_35 : decode M_BlockReader_addBytes.2.1 35 = .ok (.iadd, 1) := by decide +kernel
theorem d_BlockReader_addBytes_36 : decode M_BlockReader_addBytes.2.1 36 = .ok (.iload_n 3, 1) := by decide +kernel
theorem d_BlockReader_addBytes_37 : decode M_BlockReader_addBytes.2.1 37 = .ok (.if_icmp .le 5, 3) := by decide +kernel
theorem d_BlockReader_addBytes_40 : decode M_BlockReader_addBytes.2.1 40 = .ok (.iconst 0, 1) := by decide +kernel
theorem d_BlockReader_addBytes_41 : decode M_BlockReader_addBytes.2.1 41 = .ok (.ireturn, 1) := by decide +kernel
theorem d_BlockReader_addBytes_42 : decode M_BlockReader_addBytes.2.1 42 = .ok (.aload_n 0, 1) := by decide +kernel
theorem d_BlockReader_addBytes_43 : decode M_BlockReader_addBytes.2.1 43 = .ok (.getfield 12, 3) := by decide +kernel
theorem d_BlockReader_addBytes_46 : decode M_BlockReader_addBytes.2.1 46 = .ok (.iload 4, 2) := by decide +kernel
theorem d_BlockReader_addBytes_48 : decode M_BlockReader_addBytes.2.1 48 = .ok (.ifCond .eq 7, 3) := by decide +kernel
theorem d_BlockReader_addBytes_51 : decode M_BlockReader_addBytes.2.1 51 = .ok (.iconst 0, 1) := by decide +kernel
theorem d_BlockReader_addBytes_52 : decode M_BlockReader_addBytes.2.1 52 = .ok (.goto 6, 3) := by decide +kernel
theorem d_BlockReader_addBytes_55 : decode M_BlockReader_addBytes.2.1 55 = .ok (.iload_n 2, 1) := by decide +kernel
theorem d_BlockReader_addBytes_56 : decode M_BlockReader_addBytes.2.1 56 = .ok (.iconst 1, 1) := by decide +kernel
theorem d_BlockReader_addBytes_57 : decode M_BlockReader_addBytes.2.1 57 = .ok (.isub, 1) := by decide +kernel
theorem d_BlockReader_addBytes_58 : decode M_BlockReader_addBytes.2.1 58 = .ok (.invokevirtual 129, 3) := by decide +kernel
theorem d_BlockReader_addBytes_61 : decode M_BlockReader_addBytes.2.1 61 = .ok (.istore 6, 2) := by decide +kernel
theorem d_BlockReader_addBytes_63 : decode M_BlockReader_addBytes.2.1 63 = .ok (.iconst 0, 1) := by decide +kernel
theorem d_BlockReader_addBytes_64 : decode M_BlockReader_addBytes.2.1 64 = .ok (.istore 7, 2) := by decide +kernel
theorem d_BlockReader_addBytes_66 : decode M_BlockReader_addBytes.2.1 66 = .ok (.iload 7, 2) := by decide +kernel
theorem d_BlockReader_addBytes_68 : decode M_BlockReader_addBytes.2.1 68 = .ok (.iload 5, 2) := by decide +kernel
theorem d_BlockReader_addBytes_70 : decode M_BlockReader_addBytes.2.1 70 = .ok (.if_icmp .ge 15, 3) := by decide +kernel
theorem d_BlockReader_addBytes_73 : decode M_BlockReader_addBytes.2.1 73 = .ok (.aload_n 1, 1) := by decide +kernel
theorem d_BlockReader_addBytes_74 : decode M_BlockReader_addBytes.2.1 74 = .ok (.iload 6, 2) := by decide +kernel
theorem d_BlockReader_addBytes_76 : decode M_BlockReader_addBytes.2.1 76 = .ok (.invokevirtual 190, 3) := by decide +kernel
theorem d_BlockReader_addBytes_79 : decode M_BlockReader_addBytes.2.1 79 = .ok (.iinc 7 1, 3) := by decide +kernel
theorem d_BlockReader_addBytes_82 : decode M_BlockReader_addBytes.2.1 82 = .ok (.goto (-16), 3) := by decide +kernel
theorem d_BlockReader_addBytes_85 : decode M_BlockReader_addBytes.2.1 85 = .ok (.aload_n 0, 1) := by decide +kernel
theorem d_BlockReader_addBytes_86 : decode M_BlockReader_addBytes.2.1 86 = .ok (.iload 4, 2) := by decide +kernel
theorem d_BlockReader_addBytes_88 : decode M_BlockReader_addBytes.2.1 88 = .ok (.ifCond .eq 12, 3) := by decide +kernel
theorem d_BlockReader_addBytes_91 : decode M_BlockReader_addBytes.2.1 91 = .ok (.iconst 2, 1) := by decide +kernel
theorem d_BlockReader_addBytes_92 : decode M_BlockReader_addBytes.2.1 92 = .ok (.aload_n 0, 1) := by decide +kernel
theorem d_BlockReader_addBytes_93 : decode M_BlockReader_addBytes.2.1 93 = .ok (.getfield 31, 3) := by decide +kernel
theorem d_BlockReader_addBytes_96 : decode M_BlockReader_addBytes.2.1 96 = .ok (.imul, 1) := by decide +kernel
theorem d_BlockReader_addBytes_97 : decode M_BlockReader_addBytes.2.1 97 = .ok (.goto 4, 3) := by decide +kernel
theorem d_BlockReader_addBytes_100 : decode M_BlockReader_addBytes.2.1 100 = .ok (.iconst 1, 1) := by decide +kernel
theorem d_BlockReader_addBytes_101 : decode M_BlockReader_addBytes.2.1 101 = .ok (.putfield 31, 3) := by decide +kernel
theorem d_BlockReader_addBytes_104 : decode M_BlockReader_addBytes.2.1 104 = .ok (.iconst 1, 1) := by decide +kernel
theorem d_BlockReader_addBytes_105 : decode M_BlockReader_addBytes.2.1 105 = .ok (.ireturn, 1) := by decide +kernel
theorem d_BlockReader_unsort_0 : decode M_BlockReader_unsort.2.1 0 = .ok (.aload_n 1, 1) := by decide +kernel
theorem d_BlockReader_unsort_1 : decode M_BlockReader_unsort.2.1 1 = .ok (.getfield 98, 3) := by decide +kernel
theorem d_BlockReader_unsort_4 : decode M_BlockReader_unsort.2.1 4 = .ok (.aload_n 1, 1) := by decide +kernel
theorem d_BlockReader_unsort_5 : decode M_BlockReader_unsort.2.1 5 = .ok (.getfield 168, 3) := by decide +kernel
theorem d_BlockReader_unsort_8 : decode M_BlockReader_unsort.2.1 8 = .ok (.if_icmp .lt 6, 3) := by decide +kernel
theorem d_BlockReader_unsort_11 : decode M_BlockReader_unsort.2.1 11 = .ok (.bipush (-12), 2) := by decide +kernel
theorem d_BlockReader_unsort_13 : decode M_BlockReader_unsort.2.1 13 = .ok (.ireturn, 1) := by decide +kernel
theorem d_BlockReader_unsort_14 : decode M_BlockReader_unsort.2.1 14 = .ok (.aload_n 0, 1) := by decide +kernel
theorem d_BlockReader_unsort_15 : decode M_BlockReader_unsort.2.1 15 = .ok (.aload_n 1, 1) := by decide +kernel
theorem d_BlockReader_unsort_16 : decode M_BlockReader_unsort.2.1 16 = .ok (.invokevirtual 193, 3) := by decide +kernel
theorem d_BlockReader_unsort_19 : decode M_BlockReader_unsort.2.1 19 = .ok (.aload_n 1, 1) := by decide +kernel
theorem d_BlockReader_unsort_20 : decode M_BlockReader_unsort.2.1 20 = .ok (.getfield 98, 3) := by decide +kernel
theorem d_BlockReader_unsort_23 : decode M_BlockReader_unsort.2.1 23 = .ok (.istore_n 2, 1) := by decide +kernel
theorem d_BlockReader_unsort_24 : decode M_BlockReader_unsort.2.1 24 = .ok (.iconst 0, 1) := by decide +kernel
theorem d_BlockReader_unsort_25 : decode M_BlockReader_unsort.2.1 25 = .ok (.istore_n 3, 1) := by decide +kernel
theorem d_BlockReader_unsort_26 : decode M_BlockReader_unsort.2.1 26 = .ok (.iload_n 3, 1) := by decide +kernel
theorem d_BlockReader_unsort_27 : decode M_BlockReader_unsort.2.1 27 = .ok (.aload_n 1, 1) := by decide +kernel
theorem d_BlockReader_unsort_28 : decode M_BlockReader_unsort.2.1 28 = .ok (.getfield 168, 3) := by decide +kernel
theorem d_BlockReader_unsort_31 : decode M_BlockReader_unsort.2.1 31 = .ok (.if_icmp .ge 28, 3) := by decide +kernel
theorem d_BlockReader_unsort_34 : decode M_BlockReader_unsort.2.1 34 = .ok (.aload_n 0, 1) := by decide +kernel
theorem d_BlockReader_unsort_35 : decode M_BlockReader_unsort.2.1 35 = .ok (.getfield 24, 3) := by decide +kernel
theorem d_BlockReader_unsort_38 : decode M_BlockReader_unsort.2.1 38 = .ok (.iload_n 2, 1) := by decide +kernel
theorem d_BlockReader_unsort_39 : decode M_BlockReader_unsort.2.1 39 = .ok (.iaload, 1) := by decide +kernel
theorem d_BlockReader_unsort_40 : decode M_BlockReader_unsort.2.1 40 = .ok (.istore_n 2, 1) := by decide +kernel
theorem d_BlockReader_unsort_41 : decode M_BlockReader_unsort.2.1 41 = .ok (.aload_n 1, 1) := by decide +kernel
theorem d_BlockReader_unsort_42 : decode M_BlockReader_unsort.2.1 42 = .ok (.getfield 197, 3) := by decide +kernel
theorem d_BlockReader_unsort_45 : decode M_BlockReader_unsort.2.1 45 = .ok (.iload_n 3, 1) := by decide +kernel
theorem d_BlockReader_unsort_46 : decode M_BlockReader_unsort.2.1 46 = .ok (.aload_n 1, 1) := by decide +kernel
theorem d_BlockReader_unsort_47 : decode M_BlockReader_unsort.2.1 47 = .ok (.getfield 200, 3) := by decide +kernel
theorem d_BlockReader_unsort_50 : decode M_BlockReader_unsort.2.1 50 = .ok (.iload_n 2, 1) := by decide +kernel
theorem d_BlockReader_unsort_51 : decode M_BlockReader_unsort.2.1 51 = .ok (.iaload, 1) := by decide +kernel
theorem d_BlockReader_unsort_52 : decode M_BlockReader_unsort.2.1 52 = .ok (.iastore, 1) := by decide +kernel
theorem d_BlockReader_unsort_53 : decode M_BlockReader_unsort.2.1 53 = .ok (.iinc 3 1, 3) := by decide +kernel
theorem d_BlockReader_unsort_56 : decode M_BlockReader_unsort.2.1 56 = .ok (.goto (-30), 3) := by decide +kernel
theorem d_BlockReader_unsort_59 : decode M_BlockReader_unsort.2.1 59 = .ok (.iconst 0, 1) := by decide +kernel
theorem d_BlockReader_unsort_60 : decode M_BlockReader_unsort.2.1 60 = .ok (.ireturn, 1) := by decide +kernel
theorem d_BlockReader_findFollowers_0 : decode M_BlockReader_findFollowers.2.1 0 = .ok (.aload_n 0, 1) := by decide +kernel
theorem d_BlockReader_findFollowers_1 : decode M_BlockReader_findFollowers.2.1 1 = .ok (.getfield 28, 3) := by decide +kernel
theorem d_BlockReader_findFollowers_4 : decode M_BlockReader_findFollowers.2.1 4 = .ok (.iconst 0, 1) := by decide +kernel
theorem d_BlockReader_findFollowers_5 : decode M_BlockReader_findFollowers.2.1 5 = .ok (.invokestatic 203, 3) := by decide +kernel
theorem d_BlockReader_findFollowers_8 : decode M_BlockReader_findFollowers.2.1 8 = .ok (.iconst 0, 1) := by decide +kernel
theorem d_BlockReader_findFollowers_9 : decode M_BlockReader_findFollowers.2.1 9 = .ok (.istore_n 2, 1) := by decide +kernel
theorem d_BlockReader_findFollowers_10 : decode M_BlockReader_findFollowers.2.1 10 = .ok (.iload_n 2, 1) := by decide +kernel
theorem d_BlockReader_findFollowers_11 : decode M_BlockReader_findFollowers.2.1 11 = .ok (.aload_n 1, 1) := by decide +kernel
theorem d_BlockReader_findFollowers_12 : decode M_BlockReader_findFollowers.2.1 12 = .ok (.getfield 168, 3) := by decide +kernel
theorem d_BlockReader_findFollowers_15 : decode M_BlockReader_findFollowers.2.1 15 = .ok (.if_icmp .ge 24, 3) := by decide +kernel
theorem d_BlockReader_findFollowers_18 : decode M_BlockReader_findFollowers.2.1 18 = .ok (.aload_n 0, 1) := by decide +kernel
theorem d_BlockReader_findFollowers_19 : decode M_BlockReader_findFollowers.2.1 19 = .ok (.getfield 28, 3) := by decide +kernel
theorem d_BlockReader_findFollowers_22 : decode M_BlockReader_findFollowers.2.1 22 = .ok (.aload_n 1, 1) := by decide +kernel
theorem d_BlockReader_findFollowers_23 : decode M_BlockReader_findFollowers.2.1 23 = .ok (.getfield 200, 3) := by decide +kernel
theorem d_BlockReader_findFollowers_26 : decode M_BlockReader_findFollowers.2.1 26 = .ok (.iload_n 2, 1) := by decide +kernel
theorem d_BlockReader_findFollowers_27 : decode M_BlockReader_findFollowers.2.1 27 = .ok (.iaload, 1) := by decide +kernel
theorem d_BlockReader_findFollowers_28 : decode M_BlockReader_findFollowers.2.1 28 = .ok (.dup2, 1) := by decide +kernel
theorem d_BlockReader_findFollowers_29 : decode M_BlockReader_findFollowers.2.1 29 = .ok (.iaload, 1) := by decide +kernel
theorem d_BlockReader_findFollowers_30 : decode M_BlockReader_findFollowers.2.1 30 = .ok (.iconst 1, 1) := by decide +kernel
theorem d_BlockReader_findFollowers_31 : decode M_BlockReader_findFollowers.2.1 31 = .ok (.iadd, 1) := by decide +kernel
theorem d_BlockReader_findFollowers_32 : decode M_BlockReader_findFollowers.2.1 32 = .ok (.iastore, 1) := by decide +kernel
theorem d_BlockReader_findFollowers_33 : decode M_BlockReader_findFollowers.2.1 33 = .ok (.iinc 2 1, 3) := by decide +kernel
theorem d_BlockReader_findFollowers_36 : decode M_BlockReader_findFollowers.2.1 36 = .ok (.goto (-26), 3) := by decide +kernel
theorem d_BlockReader_findFollowers_39 : decode M_BlockReader_findFollowers.2.1 39 = .ok (.iconst 0, 1) := by decide +kernel
theorem d_BlockReader_findFollowers_40 : decode M_BlockReader_findFollowers.2.1 40 = .ok (.istore_n 2, 1) := by decide +kernel
theorem d_BlockReader_findFollowers_41 : decode M_BlockReader_findFollowers.2.1 41 = .ok (.iconst 0, 1) := by decide +kernel
theorem d_BlockReader_findFollowers_42 : decode M_BlockReader_findFollowers.2.1 42 = .ok (.istore_n 3, 1) := by decide +kernel
theorem d_BlockReader_findFollowers_43 : decode M_BlockReader_findFollowers.2.1 43 = .ok (.iload_n 3, 1) := by decide +kernel
theorem d_BlockReader_findFollowers_44 : decode M_BlockReader_findFollowers.2.1 44 = .ok (.sipush 256, 3) := by decide +kernel
theorem d_BlockReader_findFollowers_47 : decode M_BlockReader_findFollowers.2.1 47 = .ok (.if_icmp .ge 29, 3) := by decide +kernel
theorem d_BlockReader_findFollowers_50 : decode M_BlockReader_findFollowers.2.1 50 = .ok (.aload_n 0, 1) := by decide +kernel
theorem d_BlockReader_findFollowers_51 : decode M_BlockReader_findFollowers.2.1 51 = .ok (.getfield 28, 3) := by decide +kernel
theorem d_BlockReader_findFollowers_54 : decode M_BlockReader_findFollowers.2.1 54 = .ok (.iload_n 3, 1) := by decide +kernel
theorem d_BlockReader_findFollowers_55 : decode M_BlockReader_findFollowers.2.1 55 = .ok (.iaload, 1) := by decide +kernel
theorem d_BlockReader_findFollowers_56 : decode M_BlockReader_findFollowers.2.1 56 = .ok (.istore 4, 2) := by decide +kernel
theorem d_BlockReader_findFollowers_58 : decode M_BlockReader_findFollowers.2.1 58 = .ok (.aload_n 0, 1) := by decide +kernel
theorem d_BlockReader_findFollowers_59 : decode M_BlockReader_findFollowers.2.1 59 = .ok (.getfield 28, 3) := by decide +kernel
theorem d_BlockReader_findFollowers_62 : decode M_BlockReader_findFollowers.2.1 62 = .ok (.iload_n 3, 1) := by decide +kernel
theorem d_BlockReader_findFollowers_63 : decode M_BlockReader_findFollowers.2.1 63 = .ok (.iload_n 2, 1) := by decide +kernel
theorem d_BlockReader_findFollowers_64 : decode M_BlockReader_findFollowers.2.1 64 = .ok (.iastore, 1) := by decide +kernel
theorem d_BlockReader_findFollowers_65 : decode M_BlockReader_findFollowers.2.1 65 = .ok (.iload_n 2, 1) := by decide +kernel
theorem d_BlockReader_findFollowers_66 : decode M_BlockReader_findFollowers.2.1 66 = .ok (.iload 4, 2) := by decide +kernel
theorem d_BlockReader_findFollowers_68 : decode M_BlockReader_findFollowers.2.1 68 = .ok (.iadd, 1) := by decide +kernel
theorem d_BlockReader_findFollowers_69 : decode M_BlockReader_findFollowers.2.1 69 = .ok (.istore_n 2, 1) := by decide +kernel
theorem d_BlockReader_findFollowers_70 : decode M_BlockReader_findFollowers.2.1 70 = .ok (.iinc 3 1, 3) := by decide +kernel
theorem d_BlockReader_findFollowers_73 : decode M_BlockReader_findFollowers.2.1 73 = .ok (.goto (-30), 3) := by decide +kernel
theorem d_BlockReader_findFollowers_76 : decode M_BlockReader_findFollowers.2.1 76 = .ok (.iconst 0, 1) := by decide +kernel
theorem d_BlockReader_findFollowers_77 : decode M_BlockReader_findFollowers.2.1 77 = .ok (.istore_n 3, 1) := by decide +kernel
theorem d_BlockReader_findFollowers_78 : decode M_BlockReader_findFollowers.2.1 78 = .ok (.iload_n 3, 1) := by decide +kernel
theorem d_BlockReader_findFollowers_79 : decode M_BlockReader_findFollowers.2.1 79 = .ok (.aload_n 1, 1) := by decide +kernel
theorem d_BlockReader_findFollowers_80 : decode M_BlockReader_findFollowers.2.1 80 = .ok (.getfield 168, 3) := by decide +kernel
theorem d_BlockReader_findFollowers_83 : decode M_BlockReader_findFollowers.2.1 83 = .ok (.if_icmp .ge 41, 3) := by decide +kernel
theorem d_BlockReader_findFollowers_86 : decode M_BlockReader_findFollowers.2.1 86 = .ok (.aload_n 1, 1) := by decide +kernel
theorem d_BlockReader_findFollowers_87 : decode M_BlockReader_findFollowers.2.1 87 = .ok (.getfield 200, 3) := by decide +kernel
theorem d_BlockReader_findFollowers_90 : decode M_BlockReader_findFollowers.2.1 90 = .ok (.iload_n 3, 1) := by decide +kernel
theorem d_BlockReader_findFollowers_91 : decode M_BlockReader_findFollowers.2.1 91 = .ok (.iaload, 1) := by decide +kernel
theorem d_BlockReader_findFollowers_92 : decode M_BlockReader_findFollowers.2.1 92 = .ok (.istore 4, 2) := by decide +kernel
theorem d_BlockReader_findFollowers_94 : decode M_BlockReader_findFollowers.2.1 94 = .ok (.aload_n 0, 1) := by decide +kernel
theorem d_BlockReader_findFollowers_95 : decode M_BlockReader_findFollowers.2.1 95 = .ok (.getfield 24, 3) := by decide +kernel
theorem d_BlockReader_findFollowers_98 : decode M_BlockReader_findFollowers.2.1 98 = .ok (.aload_n 0, 1) := by decide +kernel
theorem d_BlockReader_findFollowers_99 : decode M_BlockReader_findFollowers.2.1 99 = .ok (.getfield 28, 3) := by decide +kernel
theorem d_BlockReader_findFollowers_102 : decode M_BlockReader_findFollowers.2.1 102 = .ok (.iload 4, 2) := by decide +kernel
theorem d_BlockReader_findFollowers_104 : decode M_BlockReader_findFollowers.2.1 104 = .ok (.iaload, 1) := by decide +kernel
theorem d_BlockReader_findFollowers_105 : decode M_BlockReader_findFollowers.2.1 105 = .ok (.iload_n 3, 1) := by decide +kernel
theorem d_BlockReader_findFollowers_106 : decode M_BlockReader_findFollowers.2.1 106 = .ok (.iastore, 1) := by decide +kernel
theorem d_BlockReader_findFollowers_107 : decode M_BlockReader_findFollowers.2.1 107 = .ok (.aload_n 0, 1) := by decide +kernel
theorem d_BlockReader_findFollowers_108 : decode M_BlockReader_findFollowers.2.1 108 = .ok (.getfield 28, 3) := by decide +kernel
theorem d_BlockReader_findFollowers_111 : decode M_BlockReader_findFollowers.2.1 111 = .ok (.iload 4, 2) := by decide +kernel
theorem d_BlockReader_findFollowers_113 : decode M_BlockReader_findFollowers.2.1 113 = .ok (.dup2, 1) := by decide +kernel
theorem d_BlockReader_findFollowers_114 : decode M_BlockReader_findFollowers.2.1 114 = .ok (.iaload, 1) := by decide +kernel
theorem d_BlockReader_findFollowers_115 : decode M_BlockReader_findFollowers.2.1 115 = .ok (.iconst 1, 1) := by decide +kernel
theorem d_BlockReader_findFollowers_116 : decode M_BlockReader_findFollowers.2.1 116 = .ok (.iadd, 1) := by decide +kernel
theorem d_BlockReader_findFollowers_117 : decode M_BlockReader_findFollowers.2.1 117 = .ok (.iastore, 1) := by decide +kernel
theorem d_BlockReader_findFollowers_118 : decode M_BlockReader_findFollowers.2.1 118 = .ok (.iinc 3 1, 3) := by decide +kernel
theorem d_BlockReader_findFollowers_121 : decode M_BlockReader_findFollowers.2.1 121 = .ok (.goto (-43), 3) := by decide +kernel
theorem d_BlockReader_findFollowers_124 : decode M_BlockReader_findFollowers.2.1 124 = .ok (.return_, 1) := by decide +kernel
theorem d_BlockReader_lengthen_0 : decode M_BlockReader_lengthen.2.1 0 = .ok (.iconst 0, 1) := by decide +kernel
theorem d_BlockReader_lengthen_1 : decode M_BlockReader_lengthen.2.1 1 = .ok (.istore_n 2, 1) := by decide +kernel
theorem d_BlockReader_lengthen_2 : decode M_BlockReader_lengthen.2.1 2 = .ok (.aload_n 1, 1) := by decide +kernel
theorem d_BlockReader_lengthen_3 : decode M_BlockReader_lengthen.2.1 3 = .ok (.getfield 47, 3) := by decide +kernel
theorem d_BlockReader_lengthen_6 : decode M_BlockReader_lengthen.2.1 6 = .ok (.istore_n 3, 1) := by decide +kernel
theorem d_BlockReader_lengthen_7 : decode M_BlockReader_lengthen.2.1 7 = .ok (.iconst 0, 1) := by decide +kernel
theorem d_BlockReader_lengthen_8 : decode M_BlockReader_lengthen.2.1 8 = .ok (.istore 4, 2) := by decide +kernel
theorem d_BlockReader_lengthen_10 : decode M_BlockReader_lengthen.2.1 10 = .ok (.iconst 0, 1) := by decide +kernel
theorem d_BlockReader_lengthen_11 : decode M_BlockReader_lengthen.2.1 11 = .ok (.istore 5, 2) := by decide +kernel
theorem d_BlockReader_lengthen_13 : decode M_BlockReader_lengthen.2.1 13 = .ok (.iload 5, 2) := by decide +kernel
theorem d_BlockReader_lengthen_15 : decode M_BlockReader_lengthen.2.1 15 = .ok (.aload_n 0, 1) := by decide +kernel
theorem d_BlockReader_lengthen_16 : decode M_BlockReader_lengthen.2.1 16 = .ok (.getfield 168, 3) := by decide +kernel
theorem d_BlockReader_lengthen_19 : decode M_BlockReader_lengthen.2.1 19 = .ok (.if_icmp .ge 91, 3) := by decide +kernel
theorem d_BlockReader_lengthen_22 : decode M_BlockReader_lengthen.2.1 22 = .ok (.iconst 1, 1) := by decide +kernel
theorem d_BlockReader_lengthen_23 : decode M_BlockReader_lengthen.2.1 23 = .ok (.istore 6, 2) := by decide +kernel
theorem d_BlockReader_lengthen_25 : decode M_BlockReader_lengthen.2.1 25 = .ok (.iload_n 2, 1) := by decide +kernel
theorem d_BlockReader_lengthen_26 : decode M_BlockReader_lengthen.2.1 26 = .ok (.iconst 4, 1) := by decide +kernel
theorem d_BlockReader_lengthen_27 : decode M_BlockReader_lengthen.2.1 27 = .ok (.if_icmp .ne 17, 3) := by decide +kernel
theorem d_BlockReader_lengthen_30 : decode M_BlockReader_lengthen.2.1 30 = .ok (.aload_n 0, 1) := by decide +kernel
theorem d_BlockReader_lengthen_31 : decode M_BlockReader_lengthen.2.1 31 = .ok (.getfield 197, 3) := by decide +kernel
theorem d_BlockReader_lengthen_34 : decode M_BlockReader_lengthen.2.1 34 = .ok (.iload 5, 2) := by decide +kernel
theorem d_BlockReader_lengthen_36 : decode M_BlockReader_lengthen.2.1 36 = .ok (.iaload, 1) := by decide +kernel
theorem d_BlockReader_lengthen_37 : decode M_BlockReader_lengthen.2.1 37 = .ok (.istore 6, 2) := by decide +kernel
theorem d_BlockReader_lengthen_39 : decode M_BlockReader_lengthen.2.1 39 = .ok (.iconst 0, 1) := by decide +kernel
theorem d_BlockReader_lengthen_40 : decode M_BlockReader_lengthen.2.1 40 = .ok (.istore_n 2, 1) := by decide +kernel
theorem d_BlockReader_lengthen_41 : decode M_BlockReader_lengthen.2.1 41 = .ok (.goto 36, 3) := by decide +kernel
theorem d_BlockReader_lengthen_44 : decode M_BlockReader_lengthen.2.1 44 = .ok (.iload_n 2, 1) := by decide +kernel
theorem d_BlockReader_lengthen_45 : decode M_BlockReader_lengthen.2.1 45 = .ok (.ifCond .le 21, 3) := by decide +kernel
theorem d_BlockReader_lengthen_48 : decode M_BlockReader_lengthen.2.1 48 = .ok (.aload_n 0, 1) := by decide +kernel
theorem d_BlockReader_lengthen_49 : decode M_BlockReader_lengthen.2.1 49 = .ok (.getfield 197, 3) := by decide +kernel
theorem d_BlockReader_lengthen_52 : decode M_BlockReader_lengthen.2.1 52 = .ok (.iload 5, 2) := by decide +kernel
theorem d_BlockReader_lengthen_54 : decode M_BlockReader_lengthen.2.1 54 = .ok (.iaload, 1) := by decide +kernel
theorem d_BlockReader_lengthen_55 : decode M_BlockReader_lengthen.2.1 55 = .ok (.iload 4, 2) := by decide +kernel
theorem d_BlockReader_lengthen_57 : decode M_BlockReader_lengthen.2.1 57 = .ok (.if_icmp .ne 9, 3) := by decide +kernel
theorem d_BlockReader_lengthen_60 : decode M_BlockReader_lengthen.2.1 60 = .ok (.iload_n 2, 1) := by decide +kernel
theorem d_BlockReader_lengthen_61 : decode M_BlockReader_lengthen.2.1 61 = .ok (.iconst 1, 1) := by decide +kernel
theorem d_BlockReader_lengthen_62 : decode M_BlockReader_lengthen.2.1 62 = .ok (.iadd, 1) := by decide +kernel
theorem d_BlockReader_lengthen_63 : decode M_BlockReader_lengthen.2.1 63 = .ok (.goto 4, 3) := by decide +kernel
theorem d_BlockReader_lengthen_66 : decode M_BlockReader_lengthen.2.1 66 = .ok (.iconst 1, 1) := by decide +kernel
theorem d_BlockReader_lengthen_67 : decode M_BlockReader_lengthen.2.1 67 = .ok (.istore_n 2, 1) := by decide +kernel
theorem d_BlockReader_lengthen_68 : decode M_BlockReader_lengthen.2.1 68 = .ok (.aload_n 0, 1) := by decide +kernel
theorem d_BlockReader_lengthen_69 : decode M_BlockReader_lengthen.2.1 69 = .ok (.getfield 197, 3) := by decide +kernel
theorem d_BlockReader_lengthen_72 : decode M_BlockReader_lengthen.2.1 72 = .ok (.iload 5, 2) := by decide +kernel
theorem d_BlockReader_lengthen_74 : decode M_BlockReader_lengthen.2.1 74 = .ok (.iaload, 1) := by decide +kernel
theorem d_BlockReader_lengthen_75 : decode M_BlockReader_lengthen.2.1 75 = .ok (.istore 4, 2) := by decide +kernel
theorem d_BlockReader_lengthen_77 : decode M_BlockReader_lengthen.2.1 77 = .ok (.iload_n 3, 1) := by decide +kernel
theorem d_BlockReader_lengthen_78 : decode M_BlockReader_lengthen.2.1 78 = .ok (.iload 6, 2) := by decide +kernel
theorem d_BlockReader_lengthen_80 : decode M_BlockReader_lengthen.2.1 80 = .ok (.iadd, 1) := by decide +kernel
theorem d_BlockReader_lengthen_81 : decode M_BlockReader_lengthen.2.1 81 = .ok (.istore_n 3, 1) := by decide +kernel
theorem d_BlockReader_lengthen_82 : decode M_BlockReader_lengthen.2.1 82 = .ok (.iconst 0, 1) := by decide +kernel
theorem d_BlockReader_lengthen_83 : decode M_BlockReader_lengthen.2.1 83 = .ok (.istore 7, 2) := by decide +kernel
theorem d_BlockReader_lengthen_85 : decode M_BlockReader_lengthen.2.1 85 = .ok (.iload 7, 2) := by decide +kernel
theorem d_BlockReader_lengthen_87 : decode M_BlockReader_lengthen.2.1 87 = .ok (.iload 6, 2) := by decide +kernel
theorem d_BlockReader_lengthen_89 : decode M_BlockReader_lengthen.2.1 89 = .ok (.if_icmp .ge 15, 3) := by decide +kernel
theorem d_BlockReader_lengthen_92 : decode M_BlockReader_lengthen.2.1 92 = .ok (.aload_n 1, 1) := by decide +kernel
theorem d_BlockReader_lengthen_93 : decode M_BlockReader_lengthen.2.1 93 = .ok (.iload 4, 2) := by decide +kernel
theorem d_BlockReader_lengthen_95 : decode M_BlockReader_lengthen.2.1 95 = .ok (.invokevirtual 208, 3) := by decide +kernel
theorem d_BlockReader_lengthen_98 : decode M_BlockReader_lengthen.2.1 98 = .ok (.iinc 7 1, 3) := by decide +kernel
theorem d_BlockReader_lengthen_101 : decode M_BlockReader_lengthen.2.1 101 = .ok (.goto (-16), 3) := by decide +kernel
theorem d_BlockReader_lengthen_104 : decode M_BlockReader_lengthen.2.1 104 = .ok (.iinc 5 1, 3) := by decide +kernel
theorem d_BlockReader_lengthen_107 : decode M_BlockReader_lengthen.2.1 107 = .ok (.goto (-94), 3) := by decide +kernel
theorem d_BlockReader_lengthen_110 : decode M_BlockReader_lengthen.2.1 110 = .ok (.iload_n 2, 1) := by decide +kernel
theorem d_BlockReader_lengthen_111 : decode M_BlockReader_lengthen.2.1 111 = .ok (.iconst 4, 1) := by decide +kernel
theorem d_BlockReader_lengthen_112 : decode M_BlockReader_lengthen.2.1 112 = .ok (.if_icmp .ne 6, 3) := by decide +kernel
theorem d_BlockReader_lengthen_115 : decode M_BlockReader_lengthen.2.1 115 = .ok (.bipush (-13), 2) := by decide +kernel
theorem d_BlockReader_lengthen_117 : decode M_BlockReader_lengthen.2.1 117 = .ok (.ireturn, 1) := by decide +kernel
theorem d_BlockReader_lengthen_118 : decode M_BlockReader_lengthen.2.1 118 = .ok (.iload_n 3, 1) := by decide +kernel
theorem d_BlockReader_lengthen_119 : decode M_BlockReader_lengthen.2.1 119 = .ok (.aload_n 1, 1) := by decide +kernel
theorem d_BlockReader_lengthen_120 : decode M_BlockReader_lengthen.2.1 120 = .ok (.getfield 211, 3) := by decide +kernel
theorem d_BlockReader_lengthen_123 : decode M_BlockReader_lengthen.2.1 123 = .ok (.arraylength, 1) := by decide +kernel
theorem d_BlockReader_lengthen_124 : decode M_BlockReader_lengthen.2.1 124 = .ok (.if_icmp .le 7, 3) := by decide +kernel
theorem d_BlockReader_lengthen_127 : decode M_BlockReader_lengthen.2.1 127 = .ok (.iconst 1, 1) := by decide +kernel
theorem d_BlockReader_lengthen_128 : decode M_BlockReader_lengthen.2.1 128 = .ok (.goto 4, 3) := by decide +kernel
theorem d_BlockReader_lengthen_131 : decode M_BlockReader_lengthen.2.1 131 = .ok (.iconst 0, 1) := by decide +kernel
theorem d_BlockReader_lengthen_132 : decode M_BlockReader_lengthen.2.1 132 = .ok (.ireturn, 1) := by decide +kernel
theorem d_BlockWriter_init_0 : decode M_BlockWriter_init.2.1 0 = .ok (.aload_n 0, 1) := by decide +kernel
theorem d_BlockWriter_init_1 : decode M_BlockWriter_init.2.1 1 = .ok (.invokespecial 3, 3) := by decide +kernel
theorem d_BlockWriter_init_4 : decode M_BlockWriter_init.2.1 4 = .ok (.aload_n 0, 1) := by decide +kernel
theorem d_BlockWriter_init_5 : decode M_BlockWriter_init.2.1 5 = .ok (.bipush 16, 2) := by decide +kernel
theorem d_BlockWriter_init_7 : decode M_BlockWriter_init.2.1 7 = .ok (.newarray .int, 2) := by decide +kernel
theorem d_BlockWriter_init_9 : decode M_BlockWriter_init.2.1 9 = .ok (.putfield 9, 3) := by decide +kernel
theorem d_BlockWriter_init_12 : decode M_BlockWriter_init.2.1 12 = .ok (.aload_n 0, 1) := by decide +kernel
theorem d_BlockWriter_init_13 : decode M_BlockWriter_init.2.1 13 = .ok (.new 15, 3) := by decide +kernel
theorem d_BlockWriter_init_16 : decode M_BlockWriter_init.2.1 16 = .ok (.dup, 1) := by decide +kernel
theorem d_BlockWriter_init_17 : decode M_BlockWriter_init.2.1 17 = .ok (.invokespecial 17, 3) := by decide +kernel
theorem d_BlockWriter_init_20 : decode M_BlockWriter_init.2.1 20 = .ok (.putfield 18, 3) := by decide +kernel
theorem d_BlockWriter_init_23 : decode M_BlockWriter_init.2.1 23 = .ok (.aload_n 0, 1) := by decide +kernel
theorem d_BlockWriter_init_24 : decode M_BlockWriter_init.2.1 24 = .ok (.iconst 4, 1) := by decide +kernel
theorem d_BlockWriter_init_25 : decode M_BlockWriter_init.2.1 25 = .ok (.anewarray 22, 3) := by decide +kernel
theorem d_BlockWriter_init_28 : decode M_BlockWriter_init.2.1 28 = .ok (.putfield 24, 3) := by decide +kernel
theorem d_BlockWriter_init_31 : decode M_BlockWriter_init.2.1 31 = .ok (.aload_n 0, 1) := by decide +kernel
theorem d_BlockWriter_init_32 : decode M_BlockWriter_init.2.1 32 = .ok (.new 28, 3) := by decide +kernel
theorem d_BlockWriter_init_35 : decode M_BlockWriter_init.2.1 35 = .ok (.dup, 1) := by decide +kernel
theorem d_BlockWriter_init_36 : decode M_BlockWriter_init.2.1 36 = .ok (.aload_n 1, 1) := by decide +kernel
theorem d_BlockWriter_init_37 : decode M_BlockWriter_init.2.1 37 = .ok (.invokespecial 30, 3) := by decide +kernel
theorem d_BlockWriter_init_40 : decode M_BlockWriter_init.2.1 40 = .ok (.putfield 33, 3) := by decide +kernel
theorem d_BlockWriter_init_43 : decode M_BlockWriter_init.2.1 43 = .ok (.iconst 0, 1) := by decide +kernel
theorem d_BlockWriter_init_44 : decode M_BlockWriter_init.2.1 44 = .ok (.istore_n 2, 1) := by decide +kernel
theorem d_BlockWriter_init_45 : decode M_BlockWriter_init.2.1 45 = .ok (.iload_n 2, 1) := by decide +kernel
theorem d_BlockWriter_init_46 : decode M_BlockWriter_init.2.1 46 = .ok (.iconst 4, 1) := by decide +kernel
theorem d_BlockWriter_init_47 : decode M_BlockWriter_init.2.1 47 = .ok (.if_icmp .ge 24, 3) := by decide +kernel
theorem d_BlockWriter_init_50 : decode M_BlockWriter_init.2.1 50 = .ok (.aload_n 0, 1) := by decide +kernel
theorem d_BlockWriter_init_51 : decode M_BlockWriter_init.2.1 51 = .ok (.getfield 24, 3) := by decide +kernel
theorem d_BlockWriter_init_54 : decode M_BlockWriter_init.2.1 54 = .ok (.iload_n 2, 1) := by decide +kernel
theorem d_BlockWriter_init_55 : decode M_BlockWriter_init.2.1 55 = .ok (.new 22, 3) := by decide +kernel
theorem d_BlockWriter_init_58 : decode M_BlockWriter_init.2.1 58 = .ok (.dup, 1) := by decide +kernel
theorem d_BlockWriter_init_59 : decode M_BlockWriter_init.2.1 59 = .ok (.bipush 66, 2) := by decide +kernel
theorem d_BlockWriter_init_61 : decode M_BlockWriter_init.2.1 61 = .ok (.invokespecial 37, 3) := by decide +kernel
theorem d_BlockWriter_init_64 : decode M_BlockWriter_init.2.1 64 = .ok (.aastore, 1) := by decide +kernel
theorem d_BlockWriter_init_65 : decode M_BlockWriter_init.2.1 65 = .ok (.iinc 2 1, 3) := by decide +kernel
theorem d_BlockWriter_init_68 : decode M_BlockWriter_init.2.1 68 = .ok (.goto (-23), 3) := by decide +kernel
theorem d_BlockWriter_init_71 : decode M_BlockWriter_init.2.1 71 = .ok (.return_, 1) := by decide +kernel
theorem d_BlockWriter_writeHead_0 : decode M_BlockWriter_writeHead.2.1 0 = .ok (.aload_n 0, 1) := by decide +kernel
theorem d_BlockWriter_writeHead_1 : decode M_BlockWriter_writeHead.2.1 1 = .ok (.getfield 33, 3) := by decide +kernel
theorem d_BlockWriter_writeHead_4 : decode M_BlockWriter_writeHead.2.1 4 = .ok (.sipush 21314, 3) := by decide +kernel
theorem d_BlockWriter_writeHead_7 : decode M_BlockWriter_writeHead.2.1 7 = .ok (.bipush 16, 2) := by decide +kernel
theorem d_BlockWriter_writeHead_9 : decode M_BlockWriter_writeHead.2.1 9 = .ok (.invokevirtual 40, 3) := by decide +kernel
theorem d_BlockWriter_writeHead_12 : decode M_BlockWriter_writeHead.2.1 12 = .ok (.aload_n 0, 1) := by decide +kernel
theorem d_BlockWriter_writeHead_13 : decode M_BlockWriter_writeHead.2.1 13 = .ok (.getfield 33, 3) := by decide +kernel
theorem d_BlockWriter_writeHead_16 : decode M_BlockWriter_writeHead.2.1 16 = .ok (.iload_n 1, 1) := by decide +kernel
theorem d_BlockWriter_writeHead_17 : decode M_BlockWriter_writeHead.2.1 17 = .ok (.bipush 8, 2) := by decide +kernel
theorem d_BlockWriter_writeHead_19 : decode M_BlockWriter_writeHead.2.1 19 = .ok (.invokevirtual 40, 3) := by decide +kernel
theorem d_BlockWriter_writeHead_22 : decode M_BlockWriter_writeHead.2.1 22 = .ok (.return_, 1) := by decide +kernel
theorem d_BlockWriter_writeEnd_0 : decode M_BlockWriter_writeEnd.2.1 0 = .ok (.aload_n 0, 1) := by decide +kernel
theorem d_BlockWriter_writeEnd_1 : decode M_BlockWriter_writeEnd.2.1 1 = .ok (.getfield 33, 3) := by decide +kernel
theorem d_BlockWriter_writeEnd_4 : decode M_BlockWriter_writeEnd.2.1 4 = .ok (.ldc 44, 2) := by decide +kernel
theorem d_BlockWriter_writeEnd_6 : decode M_BlockWriter_writeEnd.2.1 6 = .ok (.bipush 24, 2) := by decide +kernel
theorem d_BlockWriter_writeEnd_8 : decode M_BlockWriter_writeEnd.2.1 8 = .ok (.invokevirtual 40, 3) := by decide +kernel
theorem d_BlockWriter_writeEnd_11 : decode M_BlockWriter_writeEnd.2.1 11 = .ok (.aload_n 0, 1) := by decide +kernel
theorem d_BlockWriter_writeEnd_12 : decode M_BlockWriter_writeEnd.2.1 12 = .ok (.getfield 33, 3) := by decide +kernel
theorem d_BlockWriter_writeEnd_15 : decode M_BlockWriter_writeEnd.2.1 15 = .ok (.iload_n 1, 1) := by decide +kernel
theorem d_BlockWriter_writeEnd_16 : decode M_BlockWriter_writeEnd.2.1 16 = .ok (.bipush 16, 2) := by decide +kernel
theorem d_BlockWriter_writeEnd_18 : decode M_BlockWriter_writeEnd.2.1 18 = .ok (.invokevirtual 40, 3) := by decide +kernel
theorem d_BlockWriter_writeEnd_21 : decode M_BlockWriter_writeEnd.2.1 21 = .ok (.aload_n 0, 1) := by decide +kernel
theorem d_BlockWriter_writeEnd_22 : decode M_BlockWriter_writeEnd.2.1 22 = .ok (.getfield 33, 3) := by decide +kernel
theorem d_BlockWriter_writeEnd_25 : decode M_BlockWriter_writeEnd.2.1 25 = .ok (.invokevirtual 45, 3) := by decide +kernel
theorem d_BlockWriter_writeEnd_28 : decode M_BlockWriter_writeEnd.2.1 28 = .ok (.return_, 1) := by decide +kernel
theorem d_BlockWriter_writeBlock_0 : decode M_BlockWriter_writeBlock.2.1 0 = .ok (.aload_n 0, 1) := by decide +kernel
theorem d_BlockWriter_writeBlock_1 : decode M_BlockWriter_writeBlock.2.1 1 = .ok (.getfield 33, 3) := by decide +kernel
theorem d_BlockWriter_writeBlock_4 : decode M_BlockWriter_writeBlock.2.1 4 = .ok (.ldc 48, 2) := by decide +kernel
theorem d_BlockWriter_writeBlock_6 : decode M_BlockWriter_writeBlock.2.1 6 = .ok (.bipush 24, 2) := by decide +kernel
theorem d_BlockWriter_writeBlock_8 : decode M_BlockWriter_writeBlock.2.1 8 = .ok (.invokevirtual 40, 3) := by decide +kernel
theorem d_BlockWriter_writeBlock_11 : decode M_BlockWriter_writeBlock.2.1 11 = .ok (.aload_n 0, 1) := by decide +kernel
theorem d_BlockWriter_writeBlock_12 : decode M_BlockWriter_writeBlock.2.1 12 = .ok (.getfield 33, 3) := by decide +kernel
theorem d_BlockWriter_writeBlock_15 : decode M_BlockWriter_writeBlock.2.1 15 = .ok (.aload_n 1, 1) := by decide +kernel
theorem d_BlockWriter_writeBlock_16 : decode M_BlockWriter_writeBlock.2.1 16 = .ok (.getfield 49, 3) := by decide +kernel
theorem d_BlockWriter_writeBlock_19 : decode M_BlockWriter_writeBlock.2.1 19 = .ok (.bipush 16, 2) := by decide +kernel
theorem d_BlockWriter_writeBlock_21 : decode M_BlockWriter_writeBlock.2.1 21 = .ok (.invokevirtual 40, 3) := by decide +kernel
theorem d_BlockWriter_writeBlock_24 : decode M_BlockWriter_writeBlock.2.1 24 = .ok (.aload_n 0, 1) := by decide +kernel
theorem d_BlockWriter_writeBlock_25 : decode M_BlockWriter_writeBlock.2.1 25 = .ok (.getfield 33, 3) := by decide +kernel
theorem d_BlockWriter_writeBlock_28 : decode M_BlockWriter_writeBlock.2.1 28 = .ok (.aload_n 1, 1) := by decide +kernel
theorem d_BlockWriter_writeBlock_29 : decode M_BlockWriter_writeBlock.2.1 29 = .ok (.getfield 55, 3) := by decide +kernel
theorem d_BlockWriter_writeBlock_32 : decode M_BlockWriter_writeBlock.2.1 32 = .ok (.bipush 6, 2) := by decide +kernel
theorem d_BlockWriter_writeBlock_34 : decode M_BlockWriter_writeBlock.2.1 34 = .ok (.invokevirtual 40, 3) := by decide +kernel
theorem d_BlockWriter_writeBlock_37 : decode M_BlockWriter_writeBlock.2.1 37 = .ok (.aload_n 0, 1) := by decide +kernel
theorem d_BlockWriter_writeBlock_38 : decode M_BlockWriter_writeBlock.2.1 38 = .ok (.aload_n 1, 1) := by decide +kernel
theorem d_BlockWriter_writeBlock_39 : decode M_BlockWriter_writeBlock.2.1 39 = .ok (.invokevirtual 58, 3) := by decide +kernel
theorem d_BlockWriter_writeBlock_42 : decode M_BlockWriter_writeBlock.2.1 42 = .ok (.aload_n 0, 1) := by decide +kernel
theorem d_BlockWriter_writeBlock_43 : decode M_BlockWriter_writeBlock.2.1 43 = .ok (.getfield 33, 3) := by decide +kernel
theorem d_BlockWriter_writeBlock_46 : decode M_BlockWriter_writeBlock.2.1 46 = .ok (.aload_n 1, 1) := by decide +kernel
theorem d_BlockWriter_writeBlock_47 : decode M_BlockWriter_writeBlock.2.1 47 = .ok (.getfield 62, 3) := by decide +kernel
theorem d_BlockWriter_writeBlock_50 : decode M_BlockWriter_writeBlock.2.1 50 = .ok (.iconst 3, 1) := by decide +kernel
theorem d_BlockWriter_writeBlock_51 : decode M_BlockWriter_writeBlock.2.1 51 = .ok (.invokevirtual 40, 3) := by decide +kernel
theorem d_BlockWriter_writeBlock_54 : decode M_BlockWriter_writeBlock.2.1 54 = .ok (.aload_n 0, 1) := by decide +kernel
theorem d_BlockWriter_writeBlock_55 : decode M_BlockWriter_writeBlock.2.1 55 = .ok (.getfield 33, 3) := by decide +kernel
theorem d_BlockWriter_writeBlock_58 : decode M_BlockWriter_writeBlock.2.1 58 = .ok (.aload_n 1, 1) := by decide +kernel
theorem d_BlockWriter_writeBlock_59 : decode M_BlockWriter_writeBlock.2.1 59 = .ok (.getfield 65, 3) := by decide +kernel
theorem d_BlockWriter_writeBlock_62 : decode M_BlockWriter_writeBlock.2.1 62 = .ok (.bipush 6, 2) := by decide +kernel
theorem d_BlockWriter_writeBlock_64 : decode M_BlockWriter_writeBlock.2.1 64 = .ok (.invokevirtual 40, 3) := by decide +kernel
theorem d_BlockWriter_writeBlock_67 : decode M_BlockWriter_writeBlock.2.1 67 = .ok (.aload_n 0, 1) := by decide +kernel
theorem d_BlockWriter_writeBlock_68 : decode M_BlockWriter_writeBlock.2.1 68 = .ok (.aload_n 1, 1) := by decide +kernel
theorem d_BlockWriter_writeBlock_69 : decode M_BlockWriter_writeBlock.2.1 69 = .ok (.invokevirtual 68, 3) := by decide +kernel
theorem d_BlockWriter_writeBlock_72 : decode M_BlockWriter_writeBlock.2.1 72 = .ok (.iconst 0, 1) := by decide +kernel
theorem d_BlockWriter_writeBlock_73 : decode M_BlockWriter_writeBlock.2.1 73 = .ok (.istore_n 2, 1) := by decide +kernel
theorem d_BlockWriter_writeBlock_74 : decode M_BlockWriter_writeBlock.2.1 74 = .ok (.iload_n 2, 1) := by decide +kernel
theorem d_BlockWriter_writeBlock_75 : decode M_BlockWriter_writeBlock.2.1 75 = .ok (.aload_n 1, 1) := by decide +kernel
theorem d_BlockWriter_writeBlock_76 : decode M_BlockWriter_writeBlock.2.1 76 = .ok (.getfield 62, 3) := by decide +kernel
theorem d_BlockWriter_writeBlock_79 : decode M_BlockWriter_writeBlock.2.1 79 = .ok (.if_icmp .ge 42, 3) := by decide +kernel
theorem d_BlockWriter_writeBlock_82 : decode M_BlockWriter_writeBlock.2.1 82 = .ok (.aload_n 0, 1) := by decide +kernel
theorem d_BlockWriter_writeBlock_83 : decode M_BlockWriter_writeBlock.2.1 83 = .ok (.aload_n 1, 1) := by decide +kernel
theorem d_BlockWriter_writeBlock_84 : decode M_BlockWriter_writeBlock.2.1 84 = .ok (.getfield 71, 3) := by decide +kernel
theorem d_BlockWriter_writeBlock_87 : decode M_BlockWriter_writeBlock.2.1 87 = .ok (.iload_n 2, 1) := by decide +kernel
theorem d_BlockWriter_writeBlock_88 : decode M_BlockWriter_writeBlock.2.1 88 = .ok (.aaload, 1) := by decide +kernel
theorem d_BlockWriter_writeBlock_89 : decode M_BlockWriter_writeBlock.2.1 89 = .ok (.aload_n 1, 1) := by decide +kernel
theorem d_BlockWriter_writeBlock_90 : decode M_BlockWriter_writeBlock.2.1 90 = .ok (.invokevirtual 75, 3) := by decide +kernel
theorem d_BlockWriter_writeBlock_93 : decode M_BlockWriter_writeBlock.2.1 93 = .ok (.invokevirtual 79, 3) := by decide +kernel
theorem d_BlockWriter_writeBlock_96 : decode M_BlockWriter_writeBlock.2.1 96 = .ok (.aload_n 0, 1) := by decide +kernel
theorem d_BlockWriter_writeBlock_97 : decode M_BlockWriter_writeBlock.2.1 97 = .ok (.getfield 24, 3) := by decide +kernel
theorem d_BlockWriter_writeBlock_100 : decode M_BlockWriter_writeBlock.2.1 100 = .ok (.iload_n 2, 1) := by decide +kernel
theorem d_BlockWriter_writeBlock_101 : decode M_BlockWriter_writeBlock.2.1 101 = .ok (.aaload, 1) := by decide +kernel
theorem d_BlockWriter_writeBlock_102 : decode M_BlockWriter_writeBlock.2.1 102 = .ok (.aload_n 1, 1) := by decide +kernel
theorem d_BlockWriter_writeBlock_103 : decode M_BlockWriter_writeBlock.2.1 103 = .ok (.getfield 71, 3) := by decide +kernel
theorem d_BlockWriter_writeBlock_106 : decode M_BlockWriter_writeBlock.2.1 106 = .ok (.iload_n 2, 1) := by decide +kernel
theorem d_BlockWriter_writeBlock_107 : decode M_BlockWriter_writeBlock.2.1 107 = .ok (.aaload, 1) := by decide +kernel
theorem d_BlockWriter_writeBlock_108 : decode M_BlockWriter_writeBlock.2.1 108 = .ok (.aload_n 1, 1) := by decide +kernel
theorem d_BlockWriter_writeBlock_109 : decode M_BlockWriter_writeBlock.2.1 109 = .ok (.invokevirtual 75, 3) := by decide +kernel
theorem d_BlockWriter_writeBlock_112 : decode M_BlockWriter_writeBlock.2.1 112 = .ok (.invokevirtual 83, 3) := by decide +kernel
theorem d_BlockWriter_writeBlock_115 : decode M_BlockWriter_writeBlock.2.1 115 = .ok (.iinc 2 1, 3) := by decide +kernel
theorem d_BlockWriter_writeBlock_118 : decode M_BlockWriter_writeBlock.2.1 118 = .ok (.goto (-44), 3) := by decide +kernel
theorem d_BlockWriter_writeBlock_121 : decode M_BlockWriter_writeBlock.2.1 121 = .ok (.aload_n 0, 1) := by decide +kernel
theorem d_BlockWriter_writeBlock_122 : decode M_BlockWriter_writeBlock.2.1 122 = .ok (.aload_n 1, 1) := by decide +kernel
theorem d_BlockWriter_writeBlock_123 : decode M_BlockWriter_writeBlock.2.1 123 = .ok (.invokevirtual 86, 3) := by decide +kernel
theorem d_BlockWriter_writeBlock_126 : decode M_BlockWriter_writeBlock.2.1 126 = .ok (.return_, 1) := by decide +kernel
theorem d_BlockWriter_writeMap_0 : decode M_BlockWriter_writeMap.2.1 0 = .ok (.aload_n 0, 1) := by decide +kernel
theorem d_BlockWriter_writeMap_1 : decode M_BlockWriter_writeMap.2.1 1 = .ok (.getfield 9, 3) := by decide +kernel
theorem d_BlockWriter_writeMap_4 : decode M_BlockWriter_writeMap.2.1 4 = .ok (.iconst 0, 1) := by decide +kernel
theorem d_BlockWriter_writeMap_5 : decode M_BlockWriter_writeMap.2.1 5 = .ok (.invokestatic 89, 3) := by decide +kernel
theorem d_BlockWriter_writeMap_8 : decode M_BlockWriter_writeMap.2.1 8 = .ok (.iconst 0, 1) := by decide +kernel
theorem d_BlockWriter_writeMap_9 : decode M_BlockWriter_writeMap.2.1 9 = .ok (.istore_n 2, 1) := by decide +kernel
theorem d_BlockWriter_writeMap_10 : decode M_BlockWriter_writeMap.2.1 10 = .ok (.iconst 0, 1) := by decide +kernel
theorem d_BlockWriter_writeMap_11 : decode M_BlockWriter_writeMap.2.1 11 = .ok (.istore_n 3, 1) := by decide +kernel
theorem d_BlockWriter_writeMap_12 : decode M_BlockWriter_writeMap.2.1 12 = .ok (.iload_n 3, 1) := by decide +kernel
theorem d_BlockWriter_writeMap_13 : decode M_BlockWriter_writeMap.2.1 13 = .ok (.aload_n 1, 1) := by decide +kernel
theorem d_BlockWriter_writeMap_14 : decode M_BlockWriter_writeMap.2.1 14 = .ok (.getfield 94, 3) := by decide +kernel
theorem d_BlockWriter_writeMap_17 : decode M_BlockWriter_writeMap.2.1 17 = .ok (.if_icmp .ge 49, 3) := by decide +kernel
theorem d_BlockWriter_writeMap_20 : decode M_BlockWriter_writeMap.2.1 20 = .ok (.aload_n 1, 1) := by decide +kernel
theorem d_BlockWriter_writeMap_21 : decode M_BlockWriter_writeMap.2.1 21 = .ok (.getfield 97, 3) := by decide +kernel
theorem d_BlockWriter_writeMap_24 : decode M_BlockWriter_writeMap.2.1 24 = .ok (.iload_n 3, 1) := by decide +kernel
theorem d_BlockWriter_writeMap_25 : decode M_BlockWriter_writeMap.2.1 25 = .ok (.iaload, 1) := by decide +kernel
theorem d_BlockWriter_writeMap_26 : decode M_BlockWriter_writeMap.2.1 26 = .ok (.istore 4, 2) := by decide +kernel
theorem d_BlockWriter_writeMap_28 : decode M_BlockWriter_writeMap.2.1 28 = .ok (.iload_n 2, 1) := by decide +kernel
theorem d_BlockWriter_writeMap_29 : decode M_BlockWriter_writeMap.2.1 29 = .ok (.iload 4, 2) := by decide +kernel
theorem d_BlockWriter_writeMap_31 : decode M_BlockWriter_writeMap.2.1 31 = .ok (.bipush 16, 2) := by decide +kernel
theorem d_BlockWriter_writeMap_33 : decode M_BlockWriter_writeMap.2.1 33 = .ok (.idiv, 1) := by decide +kernel
theorem d_BlockWriter_writeMap_34 : decode M_BlockWriter_writeMap.2.1 34 = .ok (.invokestatic 100, 3) := by decide +kernel
theorem d_BlockWriter_writeMap_37 : decode M_BlockWriter_writeMap.2.1 37 = .ok (.ior, 1) := by decide +kernel
theorem d_BlockWriter_writeMap_38 : decode M_BlockWriter_writeMap.2.1 38 = .ok (.istore_n 2, 1) := by decide +kernel
theorem d_BlockWriter_writeMap_39 : decode M_BlockWriter_writeMap.2.1 39 = .ok (.aload_n 0, 1) := by decide +kernel
theorem d_BlockWriter_writeMap_40 : decode M_BlockWriter_writeMap.2.1 40 = .ok (.getfield 9, 3) := by decide +kernel
theorem d_BlockWriter_writeMap_43 : decode M_BlockWriter_writeMap.2.1 43 = .ok (.iload 4, 2) := by decide +kernel
