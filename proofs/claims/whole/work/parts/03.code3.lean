theorem d_BlockWriter_writeMap_45 : decode M_BlockWriter_writeMap.2.1 45 = .ok (.bipush 16, 2) := by decide +kernel
theorem d_BlockWriter_writeMap_47 : decode M_BlockWriter_writeMap.2.1 47 = .ok (.idiv, 1) := by decide +kernel
theorem d_BlockWriter_writeMap_48 : decode M_BlockWriter_writeMap.2.1 48 = .ok (.dup2, 1) := by decide +kernel
theorem d_BlockWriter_writeMap_49 : decode M_BlockWriter_writeMap.2.1 49 = .ok (.iaload, 1) := by decide +kernel
theorem d_BlockWriter_writeMap_50 : decode M_BlockWriter_writeMap.2.1 50 = .ok (.iload 4, 2) := by decide +kernel
theorem d_BlockWriter_writeMap_52 : decode M_BlockWriter_writeMap.2.1 52 = .ok (.bipush 16, 2) := by decide +kernel
theorem d_BlockWriter_writeMap_54 : decode M_BlockWriter_writeMap.2.1 54 = .ok (.irem, 1) := by decide +kernel
theorem d_BlockWriter_writeMap_55 : decode M_BlockWriter_writeMap.2.1 55 = .ok (.invokestatic 100, 3) := by decide +kernel
theorem d_BlockWriter_writeMap_58 : decode M_BlockWriter_writeMap.2.1 58 = .ok (.ior, 1) := by decide +kernel
theorem d_BlockWriter_writeMap_59 : decode M_BlockWriter_writeMap.2.1 59 = .ok (.iastore, 1) := by decide +kernel
theorem d_BlockWriter_writeMap_60 : decode M_BlockWriter_writeMap.2.1 60 = .ok (.iinc 3 1, 3) := by decide +kernel
theorem d_BlockWriter_writeMap_63 : decode M_BlockWriter_writeMap.2.1 63 = .ok (.goto (-51), 3) := by decide +kernel
theorem d_BlockWriter_writeMap_66 : decode M_BlockWriter_writeMap.2.1 66 = .ok (.aload_n 0, 1) := by decide +kernel
theorem d_BlockWriter_writeMap_67 : decode M_BlockWriter_writeMap.2.1 67 = .ok (.getfield 33, 3) := by decide +kernel
theorem d_BlockWriter_writeMap_70 : decode M_BlockWriter_writeMap.2.1 70 = .ok (.iload_n 2, 1) := by decide +kernel
theorem d_BlockWriter_writeMap_71 : decode M_BlockWriter_writeMap.2.1 71 = .ok (.bipush 16, 2) := by decide +kernel
theorem d_BlockWriter_writeMap_73 : decode M_BlockWriter_writeMap.2.1 73 = .ok (.invokevirtual 40, 3) := by decide +kernel
theorem d_BlockWriter_writeMap_76 : decode M_BlockWriter_writeMap.2.1 76 = .ok (.iconst 0, 1) := by decide +kernel
theorem d_BlockWriter_writeMap_77 : decode M_BlockWriter_writeMap.2.1 77 = .ok (.istore_n 3, 1) := by decide +kernel
theorem d_BlockWriter_writeMap_78 : decode M_BlockWriter_writeMap.2.1 78 = .ok (.iload_n 3, 1) := by decide +kernel
theorem d_BlockWriter_writeMap_79 : decode M_BlockWriter_writeMap.2.1 79 = .ok (.aload_n 0, 1) := by decide +kernel
theorem d_BlockWriter_writeMap_80 : decode M_BlockWriter_writeMap.2.1 80 = .ok (.getfield 9, 3) := by decide +kernel
theorem d_BlockWriter_writeMap_83 : decode M_BlockWriter_writeMap.2.1 83 = .ok (.arraylength, 1) := by decide +kernel
theorem d_BlockWriter_writeMap_84 : decode M_BlockWriter_writeMap.2.1 84 = .ok (.if_icmp .ge 33, 3) := by decide +kernel
theorem d_BlockWriter_writeMap_87 : decode M_BlockWriter_writeMap.2.1 87 = .ok (.aload_n 0, 1) := by decide +kernel
theorem d_BlockWriter_writeMap_88 : decode M_BlockWriter_writeMap.2.1 88 = .ok (.getfield 9, 3) := by decide +kernel
theorem d_BlockWriter_writeMap_91 : decode M_BlockWriter_writeMap.2.1 91 = .ok (.iload_n 3, 1) := by decide +kernel
theorem d_BlockWriter_writeMap_92 : decode M_BlockWriter_writeMap.2.1 92 = .ok (.iaload, 1) := by decide +kernel
theorem d_BlockWriter_writeMap_93 : decode M_BlockWriter_writeMap.2.1 93 = .ok (.ifCond .eq 18, 3) := by decide +kernel
theorem d_BlockWriter_writeMap_96 : decode M_BlockWriter_writeMap.2.1 96 = .ok (.aload_n 0, 1) := by decide +kernel
theorem d_BlockWriter_writeMap_97 : decode M_BlockWriter_writeMap.2.1 97 = .ok (.getfield 33, 3) := by decide +kernel
theorem d_BlockWriter_writeMap_100 : decode M_BlockWriter_writeMap.2.1 100 = .ok (.aload_n 0, 1) := by decide +kernel
theorem d_BlockWriter_writeMap_101 : decode M_BlockWriter_writeMap.2.1 101 = .ok (.getfield 9, 3) := by decide +kernel
theorem d_BlockWriter_writeMap_104 : decode M_BlockWriter_writeMap.2.1 104 = .ok (.iload_n 3, 1) := by decide +kernel
theorem d_BlockWriter_writeMap_105 : decode M_BlockWriter_writeMap.2.1 105 = .ok (.iaload, 1) := by decide +kernel
theorem d_BlockWriter_writeMap_106 : decode M_BlockWriter_writeMap.2.1 106 = .ok (.bipush 16, 2) := by decide +kernel
theorem d_BlockWriter_writeMap_108 : decode M_BlockWriter_writeMap.2.1 108 = .ok (.invokevirtual 40, 3) := by decide +kernel
theorem d_BlockWriter_writeMap_111 : decode M_BlockWriter_writeMap.2.1 111 = .ok (.iinc 3 1, 3) := by decide +kernel
theorem d_BlockWriter_writeMap_114 : decode M_BlockWriter_writeMap.2.1 114 = .ok (.goto (-36), 3) := by decide +kernel
theorem d_BlockWriter_writeMap_117 : decode M_BlockWriter_writeMap.2.1 117 = .ok (.return_, 1) := by decide +kernel
theorem d_BlockWriter_writePicks_0 : decode M_BlockWriter_writePicks.2.1 0 = .ok (.aload_n 0, 1) := by decide +kernel
theorem d_BlockWriter_writePicks_1 : decode M_BlockWriter_writePicks.2.1 1 = .ok (.getfield 18, 3) := by decide +kernel
theorem d_BlockWriter_writePicks_4 : decode M_BlockWriter_writePicks.2.1 4 = .ok (.aload_n 1, 1) := by decide +kernel
theorem d_BlockWriter_writePicks_5 : decode M_BlockWriter_writePicks.2.1 5 = .ok (.getfield 62, 3) := by decide +kernel
theorem d_BlockWriter_writePicks_8 : decode M_BlockWriter_writePicks.2.1 8 = .ok (.invokevirtual 104, 3) := by decide +kernel
theorem d_BlockWriter_writePicks_11 : decode M_BlockWriter_writePicks.2.1 11 = .ok (.iconst 0, 1) := by decide +kernel
theorem d_BlockWriter_writePicks_12 : decode M_BlockWriter_writePicks.2.1 12 = .ok (.istore_n 2, 1) := by decide +kernel
theorem d_BlockWriter_writePicks_13 : decode M_BlockWriter_writePicks.2.1 13 = .ok (.iload_n 2, 1) := by decide +kernel
theorem d_BlockWriter_writePicks_14 : decode M_BlockWriter_writePicks.2.1 14 = .ok (.aload_n 1, 1) := by decide +kernel
theorem d_BlockWriter_writePicks_15 : decode M_BlockWriter_writePicks.2.1 15 = .ok (.getfield 65, 3) := by decide +kernel
theorem d_BlockWriter_writePicks_18 : decode M_BlockWriter_writePicks.2.1 18 = .ok (.if_icmp .ge 56, 3) := by decide +kernel
theorem d_BlockWriter_writePicks_21 : decode M_BlockWriter_writePicks.2.1 21 = .ok (.aload_n 0, 1) := by decide +kernel
theorem d_BlockWriter_writePicks_22 : decode M_BlockWriter_writePicks.2.1 22 = .ok (.getfield 18, 3) := by decide +kernel
theorem d_BlockWriter_writePicks_25 : decode M_BlockWriter_writePicks.2.1 25 = .ok (.aload_n 1, 1) := by decide +kernel
theorem d_BlockWriter_writePicks_26 : decode M_BlockWriter_writePicks.2.1 26 = .ok (.getfield 107, 3) := by decide +kernel
theorem d_BlockWriter_writePicks_29 : decode M_BlockWriter_writePicks.2.1 29 = .ok (.iload_n 2, 1) := by decide +kernel
theorem d_BlockWriter_writePicks_30 : decode M_BlockWriter_writePicks.2.1 30 = .ok (.iaload, 1) := by decide +kernel
theorem d_BlockWriter_writePicks_31 : decode M_BlockWriter_writePicks.2.1 31 = .ok (.invokevirtual 110, 3) := by decide +kernel
theorem d_BlockWriter_writePicks_34 : decode M_BlockWriter_writePicks.2.1 34 = .ok (.istore_n 3, 1) := by decide +kernel
theorem d_BlockWriter_writePicks_35 : decode M_BlockWriter_writePicks.2.1 35 = .ok (.iconst 0, 1) := by decide +kernel
theorem d_BlockWriter_writePicks_36 : decode M_BlockWriter_writePicks.2.1 36 = .ok (.istore 4, 2) := by decide +kernel
theorem d_BlockWriter_writePicks_38 : decode M_BlockWriter_writePicks.2.1 38 = .ok (.iload 4, 2) := by decide +kernel
theorem d_BlockWriter_writePicks_40 : decode M_BlockWriter_writePicks.2.1 40 = .ok (.iload_n 3, 1) := by decide +kernel
theorem d_BlockWriter_writePicks_41 : decode M_BlockWriter_writePicks.2.1 41 = .ok (.if_icmp .ge 18, 3) := by decide +kernel
theorem d_BlockWriter_writePicks_44 : decode M_BlockWriter_writePicks.2.1 44 = .ok (.aload_n 0, 1) := by decide +kernel
theorem d_BlockWriter_writePicks_45 : decode M_BlockWriter_writePicks.2.1 45 = .ok (.getfield 33, 3) := by decide +kernel
theorem d_BlockWriter_writePicks_48 : decode M_BlockWriter_writePicks.2.1 48 = .ok (.iconst 1, 1) := by decide +kernel
theorem d_BlockWriter_writePicks_49 : decode M_BlockWriter_writePicks.2.1 49 = .ok (.iconst 1, 1) := by decide +kernel
theorem d_BlockWriter_writePicks_50 : decode M_BlockWriter_writePicks.2.1 50 = .ok (.invokevirtual 40, 3) := by decide +kernel
theorem d_BlockWriter_writePicks_53 : decode M_BlockWriter_writePicks.2.1 53 = .ok (.iinc 4 1, 3) := by decide +kernel
theorem d_BlockWriter_writePicks_56 : decode M_BlockWriter_writePicks.2.1 56 = .ok (.goto (-18), 3) := by decide +kernel
theorem d_BlockWriter_writePicks_59 : decode M_BlockWriter_writePicks.2.1 59 = .ok (.aload_n 0, 1) := by decide +kernel
theorem d_BlockWriter_writePicks_60 : decode M_BlockWriter_writePicks.2.1 60 = .ok (.getfield 33, 3) := by decide +kernel
theorem d_BlockWriter_writePicks_63 : decode M_BlockWriter_writePicks.2.1 63 = .ok (.iconst 0, 1) := by decide +kernel
theorem d_BlockWriter_writePicks_64 : decode M_BlockWriter_writePicks.2.1 64 = .ok (.iconst 1, 1) := by decide +kernel
theorem d_BlockWriter_writePicks_65 : decode M_BlockWriter_writePicks.2.1 65 = .ok (.invokevirtual 40, 3) := by decide +kernel
theorem d_BlockWriter_writePicks_68 : decode M_BlockWriter_writePicks.2.1 68 = .ok (.iinc 2 1, 3) := by decide +kernel
theorem d_BlockWriter_writePicks_71 : decode M_BlockWriter_writePicks.2.1 71 = .ok (.goto (-58), 3) := by decide +kernel
theorem d_BlockWriter_writePicks_74 : decode M_BlockWriter_writePicks.2.1 74 = .ok (.return_, 1) := by decide +kernel
theorem d_BlockWriter_writeLengths_0 : decode M_BlockWriter_writeLengths.2.1 0 = .ok (.aload_n 1, 1) := by decide +kernel
theorem d_BlockWriter_writeLengths_1 : decode M_BlockWriter_writeLengths.2.1 1 = .ok (.iconst 0, 1) := by decide +kernel
theorem d_BlockWriter_writeLengths_2 : decode M_BlockWriter_writeLengths.2.1 2 = .ok (.iaload, 1) := by decide +kernel
theorem d_BlockWriter_writeLengths_3 : decode M_BlockWriter_writeLengths.2.1 3 = .ok (.istore_n 3, 1) := by decide +kernel
theorem d_BlockWriter_writeLengths_4 : decode M_BlockWriter_writeLengths.2.1 4 = .ok (.aload_n 0, 1) := by decide +kernel
theorem d_BlockWriter_writeLengths_5 : decode M_BlockWriter_writeLengths.2.1 5 = .ok (.getfield 33, 3) := by decide +kernel
theorem d_BlockWriter_writeLengths_8 : decode M_BlockWriter_writeLengths.2.1 8 = .ok (.iload_n 3, 1) := by decide +kernel
theorem d_BlockWriter_writeLengths_9 : decode M_BlockWriter_writeLengths.2.1 9 = .ok (.iconst 5, 1) := by decide +kernel
theorem d_BlockWriter_writeLengths_10 : decode M_BlockWriter_writeLengths.2.1 10 = .ok (.invokevirtual 40, 3) := by decide +kernel
theorem d_BlockWriter_writeLengths_13 : decode M_BlockWriter_writeLengths.2.1 13 = .ok (.iconst 0, 1) := by decide +kernel
theorem d_BlockWriter_writeLengths_14 : decode M_BlockWriter_writeLengths.2.1 14 = .ok (.istore 4, 2) := by decide +kernel
theorem d_BlockWriter_writeLengths_16 : decode M_BlockWriter_writeLengths.2.1 16 = .ok (.iload 4, 2) := by decide +kernel
theorem d_BlockWriter_writeLengths_18 : decode M_BlockWriter_writeLengths.2.1 18 = .ok (.iload_n 2, 1) := by decide +kernel
theorem d_BlockWriter_writeLengths_19 : decode M_BlockWriter_writeLengths.2.1 19 = .ok (.if_icmp .ge 70, 3) := by decide +kernel
theorem d_BlockWriter_writeLengths_22 : decode M_BlockWriter_writeLengths.2.1 22 = .ok (.aload_n 1, 1) := by decide +kernel
theorem d_BlockWriter_writeLengths_23 : decode M_BlockWriter_writeLengths.2.1 23 = .ok (.iload 4, 2) := by decide +kernel
theorem d_BlockWriter_writeLengths_25 : decode M_BlockWriter_writeLengths.2.1 25 = .ok (.iaload, 1) := by decide +kernel
theorem d_BlockWriter_writeLengths_26 : decode M_BlockWriter_writeLengths.2.1 26 = .ok (.iload_n 3, 1) := by decide +kernel
theorem d_BlockWriter_writeLengths_27 : decode M_BlockWriter_writeLengths.2.1 27 = .ok (.if_icmp .le 7, 3) := by decide +kernel
theorem d_BlockWriter_writeLengths_30 : decode M_BlockWriter_writeLengths.2.1 30 = .ok (.iconst 2, 1) := by decide +kernel
theorem d_BlockWriter_writeLengths_31 : decode M_BlockWriter_writeLengths.2.1 31 = .ok (.goto 4, 3) := by decide +kernel
theorem d_BlockWriter_writeLengths_34 : decode M_BlockWriter_writeLengths.2.1 34 = .ok (.iconst 3, 1) := by decide +kernel
theorem d_BlockWriter_writeLengths_35 : decode M_BlockWriter_writeLengths.2.1 35 = .ok (.istore 5, 2) := by decide +kernel
theorem d_BlockWriter_writeLengths_37 : decode M_BlockWriter_writeLengths.2.1 37 = .ok (.aload_n 1, 1) := by decide +kernel
theorem d_BlockWriter_writeLengths_38 : decode M_BlockWriter_writeLengths.2.1 38 = .ok (.iload 4, 2) := by decide +kernel
theorem d_BlockWriter_writeLengths_40 : decode M_BlockWriter_writeLengths.2.1 40 = .ok (.iaload, 1) := by decide +kernel
theorem d_BlockWriter_writeLengths_41 : decode M_BlockWriter_writeLengths.2.1 41 = .ok (.iload_n 3, 1) := by decide +kernel
theorem d_BlockWriter_writeLengths_42 : decode M_BlockWriter_writeLengths.2.1 42 = .ok (.isub, 1) := by decide +kernel
theorem d_BlockWriter_writeLengths_43 : decode M_BlockWriter_writeLengths.2.1 43 = .ok (.invokestatic 113, 3) := by decide +kernel
theorem d_BlockWriter_writeLengths_46 : decode M_BlockWriter_writeLengths.2.1 46 = .ok (.istore 6, 2) := by decide +kernel
theorem d_BlockWriter_writeLengths_48 : decode M_BlockWriter_writeLengths.2.1 48 = .ok (.iload 6, 2) := by decide +kernel
theorem d_BlockWriter_writeLengths_50 : decode M_BlockWriter_writeLengths.2.1 50 = .ok (.ifCond .le 19, 3) := by decide +kernel
theorem d_BlockWriter_writeLengths_53 : decode M_BlockWriter_writeLengths.2.1 53 = .ok (.aload_n 0, 1) := by decide +kernel
theorem d_BlockWriter_writeLengths_54 : decode M_BlockWriter_writeLengths.2.1 54 = .ok (.getfield 33, 3) := by decide +kernel
theorem d_BlockWriter_writeLengths_57 : decode M_BlockWriter_writeLengths.2.1 57 = .ok (.iload 5, 2) := by decide +kernel
theorem d_BlockWriter_writeLengths_59 : decode M_BlockWriter_writeLengths.2.1 59 = .ok (.iconst 2, 1) := by decide +kernel
theorem d_BlockWriter_writeLengths_60 : decode M_BlockWriter_writeLengths.2.1 60 = .ok (.invokevirtual 40, 3) := by decide +kernel
theorem d_BlockWriter_writeLengths_63 : decode M_BlockWriter_writeLengths.2.1 63 = .ok (.iinc 6 (-1), 3) := by decide +kernel
theorem d_BlockWriter_writeLengths_66 : decode M_BlockWriter_writeLengths.2.1 66 = .ok (.goto (-18), 3) := by decide +kernel
theorem d_BlockWriter_writeLengths_69 : decode M_BlockWriter_writeLengths.2.1 69 = .ok (.aload_n 0, 1) := by decide +kernel
theorem d_BlockWriter_writeLengths_70 : decode M_BlockWriter_writeLengths.2.1 70 = .ok (.getfield 33, 3) := by decide +kernel
theorem d_BlockWriter_writeLengths_73 : decode M_BlockWriter_writeLengths.2.1 73 = .ok (.iconst 0, 1) := by decide +kernel
theorem d_BlockWriter_writeLengths_74 : decode M_BlockWriter_writeLengths.2.1 74 = .ok (.iconst 1, 1) := by decide +kernel
theorem d_BlockWriter_writeLengths_75 : decode M_BlockWriter_writeLengths.2.1 75 = .ok (.invokevirtual 40, 3) := by decide +kernel
theorem d_BlockWriter_writeLengths_78 : decode M_BlockWriter_writeLengths.2.1 78 = .ok (.aload_n 1, 1) := by decide +kernel
theorem d_BlockWriter_writeLengths_79 : decode M_BlockWriter_writeLengths.2.1 79 = .ok (.iload 4, 2) := by decide +kernel
theorem d_BlockWriter_writeLengths_81 : decode M_BlockWriter_writeLengths.2.1 81 = .ok (.iaload, 1) := by decide +kernel
theorem d_BlockWriter_writeLengths_82 : decode M_BlockWriter_writeLengths.2.1 82 = .ok (.istore_n 3, 1) := by decide +kernel
theorem d_BlockWriter_writeLengths_83 : decode M_BlockWriter_writeLengths.2.1 83 = .ok (.iinc 4 1, 3) := by decide +kernel
theorem d_BlockWriter_writeLengths_86 : decode M_BlockWriter_writeLengths.2.1 86 = .ok (.goto (-70), 3) := by decide +kernel
theorem d_BlockWriter_writeLengths_89 : decode M_BlockWriter_writeLengths.2.1 89 = .ok (.return_, 1) := by decide +kernel
theorem d_BlockWriter_writeSymbols_0 : decode M_BlockWriter_writeSymbols.2.1 0 = .ok (.iconst 0, 1) := by decide +kernel
theorem d_BlockWriter_writeSymbols_1 : decode M_BlockWriter_writeSymbols.2.1 1 = .ok (.istore_n 2, 1) := by decide +kernel
theorem d_BlockWriter_writeSymbols_2 : decode M_BlockWriter_writeSymbols.2.1 2 = .ok (.iload_n 2, 1) := by decide +kernel
theorem d_BlockWriter_writeSymbols_3 : decode M_BlockWriter_writeSymbols.2.1 3 = .ok (.aload_n 1, 1) := by decide +kernel
theorem d_BlockWriter_writeSymbols_4 : decode M_BlockWriter_writeSymbols.2.1 4 = .ok (.getfield 118, 3) := by decide +kernel
theorem d_BlockWriter_writeSymbols_7 : decode M_BlockWriter_writeSymbols.2.1 7 = .ok (.if_icmp .ge 50, 3) := by decide +kernel
theorem d_BlockWriter_writeSymbols_10 : decode M_BlockWriter_writeSymbols.2.1 10 = .ok (.aload_n 1, 1) := by decide +kernel
theorem d_BlockWriter_writeSymbols_11 : decode M_BlockWriter_writeSymbols.2.1 11 = .ok (.iload_n 2, 1) := by decide +kernel
theorem d_BlockWriter_writeSymbols_12 : decode M_BlockWriter_writeSymbols.2.1 12 = .ok (.invokevirtual 121, 3) := by decide +kernel
theorem d_BlockWriter_writeSymbols_15 : decode M_BlockWriter_writeSymbols.2.1 15 = .ok (.istore_n 3, 1) := by decide +kernel
theorem d_BlockWriter_writeSymbols_16 : decode M_BlockWriter_writeSymbols.2.1 16 = .ok (.aload_n 1, 1) := by decide +kernel
theorem d_BlockWriter_writeSymbols_17 : decode M_BlockWriter_writeSymbols.2.1 17 = .ok (.getfield 124, 3) := by decide +kernel
theorem d_BlockWriter_writeSymbols_20 : decode M_BlockWriter_writeSymbols.2.1 20 = .ok (.iload_n 2, 1) := by decide +kernel
theorem d_BlockWriter_writeSymbols_21 : decode M_BlockWriter_writeSymbols.2.1 21 = .ok (.iaload, 1) := by decide +kernel
theorem d_BlockWriter_writeSymbols_22 : decode M_BlockWriter_writeSymbols.2.1 22 = .ok (.istore 4, 2) := by decide +kernel
theorem d_BlockWriter_writeSymbols_24 : decode M_BlockWriter_writeSymbols.2.1 24 = .ok (.aload_n 0, 1) := by decide +kernel
theorem d_BlockWriter_writeSymbols_25 : decode M_BlockWriter_writeSymbols.2.1 25 = .ok (.getfield 33, 3) := by decide +kernel
theorem d_BlockWriter_writeSymbols_28 : decode M_BlockWriter_writeSymbols.2.1 28 = .ok (.aload_n 0, 1) := by decide +kernel
theorem d_BlockWriter_writeSymbols_29 : decode M_BlockWriter_writeSymbols.2.1 29 = .ok (.getfield 24, 3) := by decide +kernel
theorem d_BlockWriter_writeSymbols_32 : decode M_BlockWriter_writeSymbols.2.1 32 = .ok (.iload_n 3, 1) := by decide +kernel
theorem d_BlockWriter_writeSymbols_33 : decode M_BlockWriter_writeSymbols.2.1 33 = .ok (.aaload, 1) := by decide +kernel
theorem d_BlockWriter_writeSymbols_34 : decode M_BlockWriter_writeSymbols.2.1 34 = .ok (.iload 4, 2) := by decide +kernel
theorem d_BlockWriter_writeSymbols_36 : decode M_BlockWriter_writeSymbols.2.1 36 = .ok (.invokevirtual 127, 3) := by decide +kernel
theorem d_BlockWriter_writeSymbols_39 : decode M_BlockWriter_writeSymbols.2.1 39 = .ok (.aload_n 1, 1) := by decide +kernel
theorem d_BlockWriter_writeSymbols_40 : decode M_BlockWriter_writeSymbols.2.1 40 = .ok (.getfield 71, 3) := by decide +kernel
theorem d_BlockWriter_writeSymbols_43 : decode M_BlockWriter_writeSymbols.2.1 43 = .ok (.iload_n 3, 1) := by decide +kernel
theorem d_BlockWriter_writeSymbols_44 : decode M_BlockWriter_writeSymbols.2.1 44 = .ok (.aaload, 1) := by decide +kernel
theorem d_BlockWriter_writeSymbols_45 : decode M_BlockWriter_writeSymbols.2.1 45 = .ok (.iload 4, 2) := by decide +kernel
theorem d_BlockWriter_writeSymbols_47 : decode M_BlockWriter_writeSymbols.2.1 47 = .ok (.iaload, 1) := by decide +kernel
theorem d_BlockWriter_writeSymbols_48 : decode M_BlockWriter_writeSymbols.2.1 48 = .ok (.invokevirtual 40, 3) := by decide +kernel
theorem d_BlockWriter_writeSymbols_51 : decode M_BlockWriter_writeSymbols.2.1 51 = .ok (.iinc 2 1, 3) := by decide +kernel
theorem d_BlockWriter_writeSymbols_54 : decode M_BlockWriter_writeSymbols.2.1 54 = .ok (.goto (-52), 3) := by decide +kernel
theorem d_BlockWriter_writeSymbols_57 : decode M_BlockWriter_writeSymbols.2.1 57 = .ok (.return_, 1) := by decide +kernel
theorem d_Codes_init_0 : decode M_Codes_init.2.1 0 = .ok (.aload_n 0, 1) := by decide +kernel
theorem d_Codes_init_1 : decode M_Codes_init.2.1 1 = .ok (.invokespecial 3, 3) := by decide +kernel
theorem d_Codes_init_4 : decode M_Codes_init.2.1 4 = .ok (.aload_n 0, 1) := by decide +kernel
theorem d_Codes_init_5 : decode M_Codes_init.2.1 5 = .ok (.bipush 13, 2) := by decide +kernel
theorem d_Codes_init_7 : decode M_Codes_init.2.1 7 = .ok (.newarray .int, 2) := by decide +kernel
theorem d_Codes_init_9 : decode M_Codes_init.2.1 9 = .ok (.putfield 9, 3) := by decide +kernel
theorem d_Codes_init_12 : decode M_Codes_init.2.1 12 = .ok (.aload_n 0, 1) := by decide +kernel
theorem d_Codes_init_13 : decode M_Codes_init.2.1 13 = .ok (.bipush 13, 2) := by decide +kernel
theorem d_Codes_init_15 : decode M_Codes_init.2.1 15 = .ok (.newarray .int, 2) := by decide +kernel
theorem d_Codes_init_17 : decode M_Codes_init.2.1 17 = .ok (.putfield 15, 3) := by decide +kernel
theorem d_Codes_init_20 : decode M_Codes_init.2.1 20 = .ok (.aload_n 0, 1) := by decide +kernel
theorem d_Codes_init_21 : decode M_Codes_init.2.1 21 = .ok (.bipush 13, 2) := by decide +kernel
theorem d_Codes_init_23 : decode M_Codes_init.2.1 23 = .ok (.newarray .int, 2) := by decide +kernel
theorem d_Codes_init_25 : decode M_Codes_init.2.1 25 = .ok (.putfield 18, 3) := by decide +kernel
theorem d_Codes_init_28 : decode M_Codes_init.2.1 28 = .ok (.aload_n 0, 1) := by decide +kernel
theorem d_Codes_init_29 : decode M_Codes_init.2.1 29 = .ok (.iload_n 1, 1) := by decide +kernel
theorem d_Codes_init_30 : decode M_Codes_init.2.1 30 = .ok (.newarray .int, 2) := by decide +kernel
theorem d_Codes_init_32 : decode M_Codes_init.2.1 32 = .ok (.putfield 21, 3) := by decide +kernel
theorem d_Codes_init_35 : decode M_Codes_init.2.1 35 = .ok (.aload_n 0, 1) := by decide +kernel
theorem d_Codes_init_36 : decode M_Codes_init.2.1 36 = .ok (.iload_n 1, 1) := by decide +kernel
theorem d_Codes_init_37 : decode M_Codes_init.2.1 37 = .ok (.newarray .int, 2) := by decide +kernel
theorem d_Codes_init_39 : decode M_Codes_init.2.1 39 = .ok (.putfield 24, 3) := by decide +kernel
theorem d_Codes_init_42 : decode M_Codes_init.2.1 42 = .ok (.return_, 1) := by decide +kernel
theorem d_Codes_setTo_0 : decode M_Codes_setTo.2.1 0 = .ok (.iload_n 2, 1) := by decide +kernel
theorem d_Codes_setTo_1 : decode M_Codes_setTo.2.1 1 = .ok (.aload_n 1, 1) := by decide +kernel
theorem d_Codes_setTo_2 : decode M_Codes_setTo.2.1 2 = .ok (.arraylength, 1) := by decide +kernel
theorem d_Codes_setTo_3 : decode M_Codes_setTo.2.1 3 = .ok (.aload_n 0, 1) := by decide +kernel
theorem d_Codes_setTo_4 : decode M_Codes_setTo.2.1 4 = .ok (.getfield 21, 3) := by decide +kernel
theorem d_Codes_setTo_7 : decode M_Codes_setTo.2.1 7 = .ok (.arraylength, 1) := by decide +kernel
theorem d_Codes_setTo_8 : decode M_Codes_setTo.2.1 8 = .ok (.invokestatic 27, 3) := by decide +kernel
theorem d_Codes_setTo_11 : decode M_Codes_setTo.2.1 11 = .ok (.invokestatic 27, 3) := by decide +kernel
theorem d_Codes_setTo_14 : decode M_Codes_setTo.2.1 14 = .ok (.istore_n 3, 1) := by decide +kernel
theorem d_Codes_setTo_15 : decode M_Codes_setTo.2.1 15 = .ok (.aload_n 0, 1) := by decide +kernel
theorem d_Codes_setTo_16 : decode M_Codes_setTo.2.1 16 = .ok (.aload_n 1, 1) := by decide +kernel
theorem d_Codes_setTo_17 : decode M_Codes_setTo.2.1 17 = .ok (.iload_n 3, 1) := by decide +kernel
theorem d_Codes_setTo_18 : decode M_Codes_setTo.2.1 18 = .ok (.invokevirtual 33, 3) := by decide +kernel
theorem d_Codes_setTo_21 : decode M_Codes_setTo.2.1 21 = .ok (.aload_n 0, 1) := by decide +kernel
theorem d_Codes_setTo_22 : decode M_Codes_setTo.2.1 22 = .ok (.invokevirtual 37, 3) := by decide +kernel
theorem d_Codes_setTo_25 : decode M_Codes_setTo.2.1 25 = .ok (.aload_n 0, 1) := by decide +kernel
theorem d_Codes_setTo_26 : decode M_Codes_setTo.2.1 26 = .ok (.getfield 15, 3) := by decide +kernel
theorem d_Codes_setTo_29 : decode M_Codes_setTo.2.1 29 = .ok (.iconst 0, 1) := by decide +kernel
theorem d_Codes_setTo_30 : decode M_Codes_setTo.2.1 30 = .ok (.invokestatic 40, 3) := by decide +kernel
theorem d_Codes_setTo_33 : decode M_Codes_setTo.2.1 33 = .ok (.iconst 0, 1) := by decide +kernel
theorem d_Codes_setTo_34 : decode M_Codes_setTo.2.1 34 = .ok (.istore 4, 2) := by decide +kernel
theorem d_Codes_setTo_36 : decode M_Codes_setTo.2.1 36 = .ok (.iload 4, 2) := by decide +kernel
theorem d_Codes_setTo_38 : decode M_Codes_setTo.2.1 38 = .ok (.iload_n 3, 1) := by decide +kernel
theorem d_Codes_setTo_39 : decode M_Codes_setTo.2.1 39 = .ok (.if_icmp .ge 84, 3) := by decide +kernel
theorem d_Codes_setTo_42 : decode M_Codes_setTo.2.1 42 = .ok (.aload_n 1, 1) := by decide +kernel
theorem d_Codes_setTo_43 : decode M_Codes_setTo.2.1 43 = .ok (.iload 4, 2) := by decide +kernel
theorem d_Codes_setTo_45 : decode M_Codes_setTo.2.1 45 = .ok (.iaload, 1) := by decide +kernel
theorem d_Codes_setTo_46 : decode M_Codes_setTo.2.1 46 = .ok (.istore 5, 2) := by decide +kernel
theorem d_Codes_setTo_48 : decode M_Codes_setTo.2.1 48 = .ok (.iload 5, 2) := by decide +kernel
theorem d_Codes_setTo_50 : decode M_Codes_setTo.2.1 50 = .ok (.invokestatic 45, 3) := by decide +kernel
theorem d_Codes_setTo_53 : decode M_Codes_setTo.2.1 53 = .ok (.ifCond .eq 64, 3) := by decide +kernel
theorem d_Codes_setTo_56 : decode M_Codes_setTo.2.1 56 = .ok (.aload_n 0, 1) := by decide +kernel
theorem d_Codes_setTo_57 : decode M_Codes_setTo.2.1 57 = .ok (.getfield 24, 3) := by decide +kernel
theorem d_Codes_setTo_60 : decode M_Codes_setTo.2.1 60 = .ok (.iload 4, 2) := by decide +kernel
theorem d_Codes_setTo_62 : decode M_Codes_setTo.2.1 62 = .ok (.aload_n 0, 1) := by decide +kernel
theorem d_Codes_setTo_63 : decode M_Codes_setTo.2.1 63 = .ok (.getfield 9, 3) := by decide +kernel
theorem d_Codes_setTo_66 : decode M_Codes_setTo.2.1 66 = .ok (.iload 5, 2) := by decide +kernel
theorem d_Codes_setTo_68 : decode M_Codes_setTo.2.1 68 = .ok (.iaload, 1) := by decide +kernel
theorem d_Codes_setTo_69 : decode M_Codes_setTo.2.1 69 = .ok (.aload_n 0, 1) := by decide +kernel
theorem d_Codes_setTo_70 : decode M_Codes_setTo.2.1 70 = .ok (.getfield 15, 3) := by decide +kernel
theorem d_Codes_setTo_73 : decode M_Codes_setTo.2.1 73 = .ok (.iload 5, 2) := by decide +kernel
theorem d_Codes_setTo_75 : decode M_Codes_setTo.2.1 75 = .ok (.iaload, 1) := by decide +kernel
theorem d_Codes_setTo_76 : decode M_Codes_setTo.2.1 76 = .ok (.iadd, 1) := by decide +kernel
theorem d_Codes_setTo_77 : decode M_Codes_setTo.2.1 77 = .ok (.iload 5, 2) := by decide +kernel
theorem d_Codes_setTo_79 : decode M_Codes_setTo.2.1 79 = .ok (.invokestatic 49, 3) := by decide +kernel
theorem d_Codes_setTo_82 : decode M_Codes_setTo.2.1 82 = .ok (.iand, 1) := by decide +kernel
theorem d_Codes_setTo_83 : decode M_Codes_setTo.2.1 83 = .ok (.iastore, 1) := by decide +kernel
theorem d_Codes_setTo_84 : decode M_Codes_setTo.2.1 84 = .ok (.aload_n 0, 1) := by decide +kernel
theorem d_Codes_setTo_85 : decode M_Codes_setTo.2.1 85 = .ok (.getfield 21, 3) := by decide +kernel
theorem d_Codes_setTo_88 : decode M_Codes_setTo.2.1 88 = .ok (.aload_n 0, 1) := by decide +kernel
theorem d_Codes_setTo_89 : decode M_Codes_setTo.2.1 89 = .ok (.getfield 18, 3) := by decide +kernel
theorem d_Codes_setTo_92 : decode M_Codes_setTo.2.1 92 = .ok (.iload 5, 2) := by decide +kernel
theorem d_Codes_setTo_94 : decode M_Codes_setTo.2.1 94 = .ok (.iaload, 1) := by decide +kernel
theorem d_Codes_setTo_95 : decode M_Codes_setTo.2.1 95 = .ok (.aload_n 0, 1) := by decide +kernel
theorem d_Codes_setTo_96 : decode M_Codes_setTo.2.1 96 = .ok (.getfield 15, 3) := by decide +kernel
theorem d_Codes_setTo_99 : decode M_Codes_setTo.2.1 99 = .ok (.iload 5, 2) := by decide +kernel
theorem d_Codes_setTo_101 : decode M_Codes_setTo.2.1 101 = .ok (.iaload, 1) := by decide +kernel
theorem d_Codes_setTo_102 : decode M_Codes_setTo.2.1 102 = .ok (.iadd, 1) := by decide +kernel
theorem d_Codes_setTo_103 : decode M_Codes_setTo.2.1 103 = .ok (.iload 4, 2) := by decide +kernel
theorem d_Codes_setTo_105 : decode M_Codes_setTo.2.1 105 = .ok (.iastore, 1) := by decide +kernel
theorem d_Codes_setTo_106 : decode M_Codes_setTo.2.1 106 = .ok (.aload_n 0, 1) := by decide +kernel
theorem d_Codes_setTo_107 : decode M_Codes_setTo.2.1 107 = .ok (.getfield 15, 3) := by decide +kernel
theorem d_Codes_setTo_110 : decode M_Codes_setTo.2.1 110 = .ok (.iload 5, 2) := by decide +kernel
theorem d_Codes_setTo_112 : decode M_Codes_setTo.2.1 112 = .ok (.dup2, 1) := by decide +kernel
theorem d_Codes_setTo_113 : decode M_Codes_setTo.2.1 113 = .ok (.iaload, 1) := by decide +kernel
theorem d_Codes_setTo_114 : decode M_Codes_setTo.2.1 114 = .ok (.iconst 1, 1) := by decide +kernel
theorem d_Codes_setTo_115 : decode M_Codes_setTo.2.1 115 = .ok (.iadd, 1) := by decide +kernel
theorem d_Codes_setTo_116 : decode M_Codes_setTo.2.1 116 = .ok (.iastore, 1) := by decide +kernel
theorem d_Codes_setTo_117 : decode M_Codes_setTo.2.1 117 = .ok (.iinc 4 1, 3) := by decide +kernel
theorem d_Codes_setTo_120 : decode M_Codes_setTo.2.1 120 = .ok (.goto (-84), 3) := by decide +kernel
theorem d_Codes_setTo_123 : decode M_Codes_setTo.2.1 123 = .ok (.return_, 1) := by decide +kernel
theorem d_Codes_codeOf_0 : decode M_Codes_codeOf.2.1 0 = .ok (.iload_n 1, 1) := by decide +kernel
theorem d_Codes_codeOf_1 : decode M_Codes_codeOf.2.1 1 = .ok (.ifCond .lt 21, 3) := by decide +kernel
theorem d_Codes_codeOf_4 : decode M_Codes_codeOf.2.1 4 = .ok (.iload_n 1, 1) := by decide +kernel
theorem d_Codes_codeOf_5 : decode M_Codes_codeOf.2.1 5 = .ok (.aload_n 0, 1) := by decide +kernel
theorem d_Codes_codeOf_6 : decode M_Codes_codeOf.2.1 6 = .ok (.getfield 24, 3) := by decide +kernel
theorem d_Codes_codeOf_9 : decode M_Codes_codeOf.2.1 9 = .ok (.arraylength, 1) := by decide +kernel
theorem d_Codes_codeOf_10 : decode M_Codes_codeOf.2.1 10 = .ok (.if_icmp .ge 12, 3) := by decide +kernel
theorem d_Codes_codeOf_13 : decode M_Codes_codeOf.2.1 13 = .ok (.aload_n 0, 1) := by decide +kernel
theorem d_Codes_codeOf_14 : decode M_Codes_codeOf.2.1 14 = .ok (.getfield 24, 3) := by decide +kernel
theorem d_Codes_codeOf_17 : decode M_Codes_codeOf.2.1 17 = .ok (.iload_n 1, 1) := by decide +kernel
theorem d_Codes_codeOf_18 : decode M_Codes_codeOf.2.1 18 = .ok (.iaload, 1) := by decide +kernel
theorem d_Codes_codeOf_19 : decode M_Codes_codeOf.2.1 19 = .ok (.goto 4, 3) := by decide +kernel
theorem d_Codes_codeOf_22 : decode M_Codes_codeOf.2.1 22 = .ok (.iconst 0, 1) := by decide +kernel
theorem d_Codes_codeOf_23 : decode M_Codes_codeOf.2.1 23 = .ok (.ireturn, 1) := by decide +kernel
theorem d_Codes_find_0 : decode M_Codes_find.2.1 0 = .ok (.iload_n 2, 1) := by decide +kernel
theorem d_Codes_find_1 : decode M_Codes_find.2.1 1 = .ok (.invokestatic 45, 3) := by decide +kernel
theorem d_Codes_find_4 : decode M_Codes_find.2.1 4 = .ok (.ifCond .ne 5, 3) := by decide +kernel
theorem d_Codes_find_7 : decode M_Codes_find.2.1 7 = .ok (.iconst (-1), 1) := by decide +kernel
theorem d_Codes_find_8 : decode M_Codes_find.2.1 8 = .ok (.ireturn, 1) := by decide +kernel
theorem d_Codes_find_9 : decode M_Codes_find.2.1 9 = .ok (.iload_n 1, 1) := by decide +kernel
theorem d_Codes_find_10 : decode M_Codes_find.2.1 10 = .ok (.aload_n 0, 1) := by decide +kernel
theorem d_Codes_find_11 : decode M_Codes_find.2.1 11 = .ok (.getfield 9, 3) := by decide +kernel
theorem d_Codes_find_14 : decode M_Codes_find.2.1 14 = .ok (.iload_n 2, 1) := by decide +kernel
theorem d_Codes_find_15 : decode M_Codes_find.2.1 15 = .ok (.iaload, 1) := by decide +kernel
theorem d_Codes_find_16 : decode M_Codes_find.2.1 16 = .ok (.isub, 1) := by decide +kernel
theorem d_Codes_find_17 : decode M_Codes_find.2.1 17 = .ok (.iload_n 2, 1) := by decide +kernel
theorem d_Codes_find_18 : decode M_Codes_find.2.1 18 = .ok (.invokestatic 49, 3) := by decide +kernel
theorem d_Codes_find_21 : decode M_Codes_find.2.1 21 = .ok (.iand, 1) := by decide +kernel
theorem d_Codes_find_22 : decode M_Codes_find.2.1 22 = .ok (.istore_n 3, 1) := by decide +kernel
theorem d_Codes_find_23 : decode M_Codes_find.2.1 23 = .ok (.iload_n 3, 1) := by decide +kernel
theorem d_Codes_find_24 : decode M_Codes_find.2.1 24 = .ok (.aload_n 0, 1) := by decide +kernel
theorem d_Codes_find_25 : decode M_Codes_find.2.1 25 = .ok (.getfield 15, 3) := by decide +kernel
theorem d_Codes_find_28 : decode M_Codes_find.2.1 28 = .ok (.iload_n 2, 1) := by decide +kernel
theorem d_Codes_find_29 : decode M_Codes_find.2.1 29 = .ok (.iaload, 1) := by decide +kernel
theorem d_Codes_find_30 : decode M_Codes_find.2.1 30 = .ok (.if_icmp .ge 19, 3) := by decide +kernel
theorem d_Codes_find_33 : decode M_Codes_find.2.1 33 = .ok (.aload_n 0, 1) := by decide +kernel
theorem d_Codes_find_34 : decode M_Codes_find.2.1 34 = .ok (.getfield 21, 3) := by decide +kernel
theorem d_Codes_find_37 : decode M_Codes_find.2.1 37 = .ok (.aload_n 0, 1) := by decide +kernel
theorem d_Codes_find_38 : decode M_Codes_find.2.1 38 = .ok (.getfield 18, 3) := by decide +kernel
theorem d_Codes_find_41 : decode M_Codes_find.2.1 41 = .ok (.iload_n 2, 1) := by decide +kernel
theorem d_Codes_find_42 : decode M_Codes_find.2.1 42 = .ok (.iaload, 1) := by decide +kernel
theorem d_Codes_find_43 : decode M_Codes_find.2.1 43 = .ok (.iload_n 3, 1) := by decide +kernel
theorem d_Codes_find_44 : decode M_Codes_find.2.1 44 = .ok (.iadd, 1) := by decide +kernel
theorem d_Codes_find_45 : decode M_Codes_find.2.1 45 = .ok (.iaload, 1) := by decide +kernel
theorem d_Codes_find_46 : decode M_Codes_find.2.1 46 = .ok (.goto 4, 3) := by decide +kernel
theorem d_Codes_find_49 : decode M_Codes_find.2.1 49 = .ok (.iconst (-1), 1) := by decide +kernel
theorem d_Codes_find_50 : decode M_Codes_find.2.1 50 = .ok (.ireturn, 1) := by decide +kernel
theorem d_Codes_countLengths_0 : decode M_Codes_countLengths.2.1 0 = .ok (.aload_n 0, 1) := by decide +kernel
theorem d_Codes_countLengths_1 : decode M_Codes_countLengths.2.1 1 = .ok (.getfield 15, 3) := by decide +kernel
theorem d_Codes_countLengths_4 : decode M_Codes_countLengths.2.1 4 = .ok (.iconst 0, 1) := by decide +kernel
theorem d_Codes_countLengths_5 : decode M_Codes_countLengths.2.1 5 = .ok (.invokestatic 40, 3) := by decide +kernel
theorem d_Codes_countLengths_8 : decode M_Codes_countLengths.2.1 8 = .ok (.iconst 0, 1) := by decide +kernel
theorem d_Codes_countLengths_9 : decode M_Codes_countLengths.2.1 9 = .ok (.istore_n 3, 1) := by decide +kernel
theorem d_Codes_countLengths_10 : decode M_Codes_countLengths.2.1 10 = .ok (.iload_n 3, 1) := by decide +kernel
theorem d_Codes_countLengths_11 : decode M_Codes_countLengths.2.1 11 = .ok (.iload_n 2, 1) := by decide +kernel
theorem d_Codes_countLengths_12 : decode M_Codes_countLengths.2.1 12 = .ok (.if_icmp .ge 30, 3) := by decide +kernel
theorem d_Codes_countLengths_15 : decode M_Codes_countLengths.2.1 15 = .ok (.aload_n 1, 1) := by decide +kernel
theorem d_Codes_countLengths_16 : decode M_Codes_countLengths.2.1 16 = .ok (.iload_n 3, 1) := by decide +kernel
theorem d_Codes_countLengths_17 : decode M_Codes_countLengths.2.1 17 = .ok (.iaload, 1) := by decide +kernel
theorem d_Codes_countLengths_18 : decode M_Codes_countLengths.2.1 18 = .ok (.invokestatic 45, 3) := by decide +kernel
theorem d_Codes_countLengths_21 : decode M_Codes_countLengths.2.1 21 = .ok (.ifCond .eq 15, 3) := by decide +kernel
theorem d_Codes_countLengths_24 : decode M_Codes_countLengths.2.1 24 = .ok (.aload_n 0, 1) := by decide +kernel
theorem d_Codes_countLengths_25 : decode M_Codes_countLengths.2.1 25 = .ok (.getfield 15, 3) := by decide +kernel
theorem d_Codes_countLengths_28 : decode M_Codes_countLengths.2.1 28 = .ok (.aload_n 1, 1) := by decide +kernel
theorem d_Codes_countLengths_29 : decode M_Codes_countLengths.2.1 29 = .ok (.iload_n 3, 1) := by decide +kernel
theorem d_Codes_countLengths_30 : decode M_Codes_countLengths.2.1 30 = .ok (.iaload, 1) := by decide +kernel
theorem d_Codes_countLengths_31 : decode M_Codes_countLengths.2.1 31 = .ok (.dup2, 1) := by decide +kernel
theorem d_Codes_countLengths_32 : decode M_Codes_countLengths.2.1 32 = .ok (.iaload, 1) := by decide +kernel
theorem d_Codes_countLengths_33 : decode M_Codes_countLengths.2.1 33 = .ok (.iconst 1, 1) := by decide +kernel
theorem d_Codes_countLengths_34 : decode M_Codes_countLengths.2.1 34 = .ok (.iadd, 1) := by decide +kernel
theorem d_Codes_countLengths_35 : decode M_Codes_countLengths.2.1 35 = .ok (.iastore, 1) := by decide +kernel
theorem d_Codes_countLengths_36 : decode M_Codes_countLengths.2.1 36 = .ok (.iinc 3 1, 3) := by decide +kernel
theorem d_Codes_countLengths_39 : decode M_Codes_countLengths.2.1 39 = .ok (.goto (-29), 3) := by decide +kernel
theorem d_Codes_countLengths_42 : decode M_Codes_countLengths.2.1 42 = .ok (.return_, 1) := by decide +kernel
theorem d_Codes_placeLengths_0 : decode M_Codes_placeLengths.2.1 0 = .ok (.iconst 0, 1) := by decide +kernel
theorem d_Codes_placeLengths_1 : decode M_Codes_placeLengths.2.1 1 = .ok (.istore_n 1, 1) := by decide +kernel
theorem d_Codes_placeLengths_2 : decode M_Codes_placeLengths.2.1 2 = .ok (.iconst 0, 1) := by decide +kernel
theorem d_Codes_placeLengths_3 : decode M_Codes_placeLengths.2.1 3 = .ok (.istore_n 2, 1) := by decide +kernel
theorem d_Codes_placeLengths_4 : decode M_Codes_placeLengths.2.1 4 = .ok (.iconst 1, 1) := by decide +kernel
theorem d_Codes_placeLengths_5 : decode M_Codes_placeLengths.2.1 5 = .ok (.istore_n 3, 1) := by decide +kernel
theorem d_Codes_placeLengths_6 : decode M_Codes_placeLengths.2.1 6 = .ok (.iload_n 3, 1) := by decide +kernel
theorem d_Codes_placeLengths_7 : decode M_Codes_placeLengths.2.1 7 = .ok (.bipush 12, 2) := by decide +kernel
theorem d_Codes_placeLengths_9 : decode M_Codes_placeLengths.2.1 9 = .ok (.if_icmp .gt 50, 3) := by decide +kernel
theorem d_Codes_placeLengths_12 : decode M_Codes_placeLengths.2.1 12 = .ok (.iload_n 2, 1) := by decide +kernel
theorem d_Codes_placeLengths_13 : decode M_Codes_placeLengths.2.1 13 = .ok (.iconst 1, 1) := by decide +kernel
theorem d_Codes_placeLengths_14 : decode M_Codes_placeLengths.2.1 14 = .ok (.ishl, 1) := by decide +kernel
theorem d_Codes_placeLengths_15 : decode M_Codes_placeLengths.2.1 15 = .ok (.istore_n 2, 1) := by decide +kernel
theorem d_Codes_placeLengths_16 : decode M_Codes_placeLengths.2.1 16 = .ok (.aload_n 0, 1) := by decide +kernel
theorem d_Codes_placeLengths_17 : decode M_Codes_placeLengths.2.1 17 = .ok (.getfield 9, 3) := by decide +kernel
theorem d_Codes_placeLengths_20 : decode M_Codes_placeLengths.2.1 20 = .ok (.iload_n 3, 1) := by decide +kernel
theorem d_Codes_placeLengths_21 : decode M_Codes_placeLengths.2.1 21 = .ok (.iload_n 2, 1) := by decide +kernel
theorem d_Codes_placeLengths_22 : decode M_Codes_placeLengths.2.1 22 = .ok (.iastore, 1) := by decide +kernel
theorem d_Codes_placeLengths_23 : decode M_Codes_placeLengths.2.1 23 = .ok (.aload_n 0, 1) := by decide +kernel
theorem d_Codes_placeLengths_24 : decode M_Codes_placeLengths.2.1 24 = .ok (.getfield 18, 3) := by decide +kernel
theorem d_Codes_placeLengths_27 : decode M_Codes_placeLengths.2.1 27 = .ok (.iload_n 3, 1) := by decide +kernel
theorem d_Codes_placeLengths_28 : decode M_Codes_placeLengths.2.1 28 = .ok (.iload_n 1, 1) := by decide +kernel
theorem d_Codes_placeLengths_29 : decode M_Codes_placeLengths.2.1 29 = .ok (.iastore, 1) := by decide +kernel
theorem d_Codes_placeLengths_30 : decode M_Codes_placeLengths.2.1 30 = .ok (.iload_n 2, 1) := by decide +kernel
theorem d_Codes_placeLengths_31 : decode M_Codes_placeLengths.2.1 31 = .ok (.aload_n 0, 1) := by decide +kernel
theorem d_Codes_placeLengths_32 : decode M_Codes_placeLengths.2.1 32 = .ok (.getfield 15, 3) := by decide +kernel
theorem d_Codes_placeLengths_35 : decode M_Codes_placeLengths.2.1 35 = .ok (.iload_n 3, 1) := by decide +kernel
theorem d_Codes_placeLengths_36 : decode M_Codes_placeLengths.2.1 36 = .ok (.iaload, 1) := by decide +kernel
theorem d_Codes_placeLengths_37 : decode M_Codes_placeLengths.2.1 37 = .ok (.iadd, 1) := by decide +kernel
theorem d_Codes_placeLengths_38 : decode M_Codes_placeLengths.2.1 38 = .ok (.iload_n 3, 1) := by decide +kernel
theorem d_Codes_placeLengths_39 : decode M_Codes_placeLengths.2.1 39 = .ok (.invokestatic 49, 3) := by decide +kernel
theorem d_Codes_placeLengths_42 : decode M_Codes_placeLengths.2.1 42 = .ok (.iand, 1) := by decide +kernel
theorem d_Codes_placeLengths_43 : decode M_Codes_placeLengths.2.1 43 = .ok (.istore_n 2, 1) := by decide +kernel
theorem d_Codes_placeLengths_44 : decode M_Codes_placeLengths.2.1 44 = .ok (.iload_n 1, 1) := by decide +kernel
theorem d_Codes_placeLengths_45 : decode M_Codes_placeLengths.2.1 45 = .ok (.aload_n 0, 1) := by decide +kernel
theorem d_Codes_placeLengths_46 : decode M_Codes_placeLengths.2.1 46 = .ok (.getfield 15, 3) := by decide +kernel
theorem d_Codes_placeLengths_49 : decode M_Codes_placeLengths.2.1 49 = .ok (.iload_n 3, 1) := by decide +kernel
theorem d_Codes_placeLengths_50 : decode M_Codes_placeLengths.2.1 50 = .ok (.iaload, 1) := by decide +kernel
theorem d_Codes_placeLengths_51 : decode M_Codes_placeLengths.2.1 51 = .ok (.iadd, 1) := by decide +kernel
theorem d_Codes_placeLengths_52 : decode M_Codes_placeLengths.2.1 52 = .ok (.istore_n 1, 1) := by decide +kernel
theorem d_Codes_placeLengths_53 : decode M_Codes_placeLengths.2.1 53 = .ok (.iinc 3 1, 3) := by decide +kernel
theorem d_Codes_placeLengths_56 : decode M_Codes_placeLengths.2.1 56 = .ok (.goto (-50), 3) := by decide +kernel
theorem d_Codes_placeLengths_59 : decode M_Codes_placeLengths.2.1 59 = .ok (.return_, 1) := by decide +kernel
theorem d_Codes_isLength_0 : decode M_Codes_isLength.2.1 0 = .ok (.iload_n 0, 1) := by decide +kernel
theorem d_Codes_isLength_1 : decode M_Codes_isLength.2.1 1 = .ok (.iconst 1, 1) := by decide +kernel
theorem d_Codes_isLength_2 : decode M_Codes_isLength.2.1 2 = .ok (.if_icmp .lt 13, 3) := by decide +kernel
theorem d_Codes_isLength_5 : decode M_Codes_isLength.2.1 5 = .ok (.iload_n 0, 1) := by decide +kernel
theorem d_Codes_isLength_6 : decode M_Codes_isLength.2.1 6 = .ok (.bipush 12, 2) := by decide +kernel
theorem d_Codes_isLength_8 : decode M_Codes_isLength.2.1 8 = .ok (.if_icmp .gt 7, 3) := by decide +kernel
theorem d_Codes_isLength_11 : decode M_Codes_isLength.2.1 11 = .ok (.iconst 1, 1) := by decide +kernel
theorem d_Codes_isLength_12 : decode M_Codes_isLength.2.1 12 = .ok (.goto 4, 3) := by decide +kernel
theorem d_Codes_isLength_15 : decode M_Codes_isLength.2.1 15 = .ok (.iconst 0, 1) := by decide +kernel
theorem d_Codes_isLength_16 : decode M_Codes_isLength.2.1 16 = .ok (.ireturn, 1) := by decide +kernel
theorem d_Codes_mask_0 : decode M_Codes_mask.2.1 0 = .ok (.iconst 1, 1) := by decide +kernel
theorem d_Codes_mask_1 : decode M_Codes_mask.2.1 1 = .ok (.iload_n 0, 1) := by decide +kernel
theorem d_Codes_mask_2 : decode M_Codes_mask.2.1 2 = .ok (.ishl, 1) := by decide +kernel
theorem d_Codes_mask_3 : decode M_Codes_mask.2.1 3 = .ok (.iconst 1, 1) := by decide +kernel
theorem d_Codes_mask_4 : decode M_Codes_mask.2.1 4 = .ok (.isub, 1) := by decide +kernel
theorem d_Codes_mask_5 : decode M_Codes_mask.2.1 5 = .ok (.ireturn, 1) := by decide +kernel
theorem d_MoveList_init_0 : decode M_MoveList_init.2.1 0 = .ok (.aload_n 0, 1) := by decide +kernel
theorem d_MoveList_init_1 : decode M_MoveList_init.2.1 1 = .ok (.invokespecial 3, 3) := by decide +kernel
theorem d_MoveList_init_4 : decode M_MoveList_init.2.1 4 = .ok (.aload_n 0, 1) := by decide +kernel
theorem d_MoveList_init_5 : decode M_MoveList_init.2.1 5 = .ok (.sipush 256, 3) := by decide +kernel
theorem d_MoveList_init_8 : decode M_MoveList_init.2.1 8 = .ok (.newarray .int, 2) := by decide +kernel
theorem d_MoveList_init_10 : decode M_MoveList_init.2.1 10 = .ok (.putfield 9, 3) := by decide +kernel
theorem d_MoveList_init_13 : decode M_MoveList_init.2.1 13 = .ok (.aload_n 0, 1) := by decide +kernel
theorem d_MoveList_init_14 : decode M_MoveList_init.2.1 14 = .ok (.iconst 0, 1) := by decide +kernel
theorem d_MoveList_init_15 : decode M_MoveList_init.2.1 15 = .ok (.putfield 15, 3) := by decide +kernel
theorem d_MoveList_init_18 : decode M_MoveList_init.2.1 18 = .ok (.return_, 1) := by decide +kernel
theorem d_MoveList_setTo_0 : decode M_MoveList_setTo.2.1 0 = .ok (.aload_n 0, 1) := by decide +kernel
theorem d_MoveList_setTo_1 : decode M_MoveList_setTo.2.1 1 = .ok (.iload_n 2, 1) := by decide +kernel
theorem d_MoveList_setTo_2 : decode M_MoveList_setTo.2.1 2 = .ok (.aload_n 1, 1) := by decide +kernel
theorem d_MoveList_setTo_3 : decode M_MoveList_setTo.2.1 3 = .ok (.arraylength, 1) := by decide +kernel
theorem d_MoveList_setTo_4 : decode M_MoveList_setTo.2.1 4 = .ok (.aload_n 0, 1) := by decide +kernel
theorem d_MoveList_setTo_5 : decode M_MoveList_setTo.2.1 5 = .ok (.getfield 9, 3) := by decide +kernel
theorem d_MoveList_setTo_8 : decode M_MoveList_setTo.2.1 8 = .ok (.arraylength, 1) := by decide +kernel
theorem d_MoveList_setTo_9 : decode M_MoveList_setTo.2.1 9 = .ok (.invokestatic 19, 3) := by decide +kernel
theorem d_MoveList_setTo_12 : decode M_MoveList_setTo.2.1 12 = .ok (.invokestatic 19, 3) := by decide +kernel
theorem d_MoveList_setTo_15 : decode M_MoveList_setTo.2.1 15 = .ok (.putfield 15, 3) := by decide +kernel
theorem d_MoveList_setTo_18 : decode M_MoveList_setTo.2.1 18 = .ok (.aload_n 1, 1) := by decide +kernel
theorem d_MoveList_setTo_19 : decode M_MoveList_setTo.2.1 19 = .ok (.iconst 0, 1) := by decide +kernel
theorem d_MoveList_setTo_20 : decode M_MoveList_setTo.2.1 20 = .ok (.aload_n 0, 1) := by decide +kernel
theorem d_MoveList_setTo_21 : decode M_MoveList_setTo.2.1 21 = .ok (.getfield 9, 3) := by decide +kernel
theorem d_MoveList_setTo_24 : decode M_MoveList_setTo.2.1 24 = .ok (.iconst 0, 1) := by decide +kernel
theorem d_MoveList_setTo_25 : decode M_MoveList_setTo.2.1 25 = .ok (.aload_n 0, 1) := by decide +kernel
theorem d_MoveList_setTo_26 : decode M_MoveList_setTo.2.1 26 = .ok (.getfield 15, 3) := by decide +kernel
theorem d_MoveList_setTo_29 : decode M_MoveList_setTo.2.1 29 = .ok (.invokestatic 25, 3) := by decide +kernel
theorem d_MoveList_setTo_32 : decode M_MoveList_setTo.2.1 32 = .ok (.return_, 1) := by decide +kernel
theorem d_MoveList_setToNumbers_0 : decode M_MoveList_setToNumbers.2.1 0 = .ok (.aload_n 0, 1) := by decide +kernel
theorem d_MoveList_setToNumbers_1 : decode M_MoveList_setToNumbers.2.1 1 = .ok (.iload_n 1, 1) := by decide +kernel
theorem d_MoveList_setToNumbers_2 : decode M_MoveList_setToNumbers.2.1 2 = .ok (.aload_n 0, 1) := by decide +kernel
theorem d_MoveList_setToNumbers_3 : decode M_MoveList_setToNumbers.2.1 3 = .ok (.getfield 9, 3) := by decide +kernel
theorem d_MoveList_setToNumbers_6 : decode M_MoveList_setToNumbers.2.1 6 = .ok (.arraylength, 1) := by decide +kernel
theorem d_MoveList_setToNumbers_7 : decode M_MoveList_setToNumbers.2.1 7 = .ok (.invokestatic 19, 3) := by decide +kernel
theorem d_MoveList_setToNumbers_10 : decode M_MoveList_setToNumbers.2.1 10 = .ok (.putfield 15, 3) := by decide +kernel
theorem d_MoveList_setToNumbers_13 : decode M_MoveList_setToNumbers.2.1 13 = .ok (.iconst 0, 1) := by decide +kernel
theorem d_MoveList_setToNumbers_14 : decode M_MoveList_setToNumbers.2.1 14 = .ok (.istore_n 2, 1) := by decide +kernel
theorem d_MoveList_setToNumbers_15 : decode M_MoveList_setToNumbers.2.1 15 = .ok (.iload_n 2, 1) := by decide +kernel
theorem d_MoveList_setToNumbers_16 : decode M_MoveList_setToNumbers.2.1 16 = .ok (.aload_n 0, 1) := by decide +kernel
theorem d_MoveList_setToNumbers_17 : decode M_MoveList_setToNumbers.2.1 17 = .ok (.getfield 15, 3) := by decide +kernel
theorem d_MoveList_setToNumbers_20 : decode M_MoveList_setToNumbers.2.1 20 = .ok (.if_icmp .ge 16, 3) := by decide +kernel
theorem d_MoveList_setToNumbers_23 : decode M_MoveList_setToNumbers.2.1 23 = .ok (.aload_n 0, 1) := by decide +kernel
theorem d_MoveList_setToNumbers_24 : decode M_MoveList_setToNumbers.2.1 24 = .ok (.getfield 9, 3) := by decide +kernel
theorem d_MoveList_setToNumbers_27 : decode M_MoveList_setToNumbers.2.1 27 = .ok (.iload_n 2, 1) := by decide +kernel
theorem d_MoveList_setToNumbers_28 : decode M_MoveList_setToNumbers.2.1 28 = .ok (.iload_n 2, 1) := by decide +kernel
theorem d_MoveList_setToNumbers_29 : decode M_MoveList_setToNumbers.2.1 29 = .ok (.iastore, 1) := by decide +kernel
theorem d_MoveList_setToNumbers_30 : decode M_MoveList_setToNumbers.2.1 30 = .ok (.iinc 2 1, 3) := by decide +kernel
theorem d_MoveList_setToNumbers_33 : decode M_MoveList_setToNumbers.2.1 33 = .ok (.goto (-18), 3) := by decide +kernel
theorem d_MoveList_setToNumbers_36 : decode M_MoveList_setToNumbers.2.1 36 = .ok (.return_, 1) := by decide +kernel
theorem d_MoveList_moveValue_0 : decode M_MoveList_moveValue.2.1 0 = .ok (.iconst 0, 1) := by decide +kernel
theorem d_MoveList_moveValue_1 : decode M_MoveList_moveValue.2.1 1 = .ok (.istore_n 2, 1) := by decide +kernel
theorem d_MoveList_moveValue_2 : decode M_MoveList_moveValue.2.1 2 = .ok (.iload_n 2, 1) := by decide +kernel
theorem d_MoveList_moveValue_3 : decode M_MoveList_moveValue.2.1 3 = .ok (.aload_n 0, 1) := by decide +kernel
theorem d_MoveList_moveValue_4 : decode M_MoveList_moveValue.2.1 4 = .ok (.getfield 15, 3) := by decide +kernel
theorem d_MoveList_moveValue_7 : decode M_MoveList_moveValue.2.1 7 = .ok (.iconst 1, 1) := by decide +kernel
theorem d_MoveList_moveValue_8 : decode M_MoveList_moveValue.2.1 8 = .ok (.isub, 1) := by decide +kernel
theorem d_MoveList_moveValue_9 : decode M_MoveList_moveValue.2.1 9 = .ok (.if_icmp .ge 19, 3) := by decide +kernel
theorem d_MoveList_moveValue_12 : decode M_MoveList_moveValue.2.1 12 = .ok (.aload_n 0, 1) := by decide +kernel
theorem d_MoveList_moveValue_13 : decode M_MoveList_moveValue.2.1 13 = .ok (.getfield 9, 3) := by decide +kernel
theorem d_MoveList_moveValue_16 : decode M_MoveList_moveValue.2.1 16 = .ok (.iload_n 2, 1) := by decide +kernel
theorem d_MoveList_moveValue_17 : decode M_MoveList_moveValue.2.1 17 = .ok (.iaload, 1) := by decide +kernel
theorem d_MoveList_moveValue_18 : decode M_MoveList_moveValue.2.1 18 = .ok (.iload_n 1, 1) := by decide +kernel
theorem d_MoveList_moveValue_19 : decode M_MoveList_moveValue.2.1 19 = .ok (.if_icmp .eq 9, 3) := by decide +kernel
theorem d_MoveList_moveValue_22 : decode M_MoveList_moveValue.2.1 22 = .ok (.iinc 2 1, 3) := by decide +kernel
theorem d_MoveList_moveValue_25 : decode M_MoveList_moveValue.2.1 25 = .ok (.goto (-23), 3) := by decide +kernel
theorem d_MoveList_moveValue_28 : decode M_MoveList_moveValue.2.1 28 = .ok (.aload_n 0, 1) := by decide +kernel
theorem d_MoveList_moveValue_29 : decode M_MoveList_moveValue.2.1 29 = .ok (.iload_n 2, 1) := by decide +kernel
theorem d_MoveList_moveValue_30 : decode M_MoveList_moveValue.2.1 30 = .ok (.invokevirtual 31, 3) := by decide +kernel
theorem d_MoveList_moveValue_33 : decode M_MoveList_moveValue.2.1 33 = .ok (.pop, 1) := by decide +kernel
theorem d_MoveList_moveValue_34 : decode M_MoveList_moveValue.2.1 34 = .ok (.iload_n 2, 1) := by decide +kernel
theorem d_MoveList_moveValue_35 : decode M_MoveList_moveValue.2.1 35 = .ok (.ireturn, 1) := by decide +kernel
theorem d_MoveList_movePlace_0 : decode M_MoveList_movePlace.2.1 0 = .ok (.iload_n 1, 1) := by decide +kernel
theorem d_MoveList_movePlace_1 : decode M_MoveList_movePlace.2.1 1 = .ok (.ifCond .lt 11, 3) := by decide +kernel
theorem d_MoveList_movePlace_4 : decode M_MoveList_movePlace.2.1 4 = .ok (.iload_n 1, 1) := by decide +kernel
theorem d_MoveList_movePlace_5 : decode M_MoveList_movePlace.2.1 5 = .ok (.aload_n 0, 1) := by decide +kernel
theorem d_MoveList_movePlace_6 : decode M_MoveList_movePlace.2.1 6 = .ok (.getfield 15, 3) := by decide +kernel
theorem d_MoveList_movePlace_9 : decode M_MoveList_movePlace.2.1 9 = .ok (.if_icmp .lt 5, 3) := by decide +kernel
theorem d_MoveList_movePlace_12 : decode M_MoveList_movePlace.2.1 12 = .ok (.iconst 0, 1) := by decide +kernel
theorem d_MoveList_movePlace_13 : decode M_MoveList_movePlace.2.1 13 = .ok (.ireturn, 1) := by decide +kernel
theorem d_MoveList_movePlace_14 : decode M_MoveList_movePlace.2.1 14 = .ok (.aload_n 0, 1) := by decide +kernel
theorem d_MoveList_movePlace_15 : decode M_MoveList_movePlace.2.1 15 = .ok (.getfield 9, 3) := by decide +kernel
theorem d_MoveList_movePlace_18 : decode M_MoveList_movePlace.2.1 18 = .ok (.iload_n 1, 1) := by decide +kernel
theorem d_MoveList_movePlace_19 : decode M_MoveList_movePlace.2.1 19 = .ok (.iaload, 1) := by decide +kernel
theorem d_MoveList_movePlace_20 : decode M_MoveList_movePlace.2.1 20 = .ok (.istore_n 2, 1) := by decide +kernel
theorem d_MoveList_movePlace_21 : decode M_MoveList_movePlace.2.1 21 = .ok (.aload_n 0, 1) := by decide +kernel
theorem d_MoveList_movePlace_22 : decode M_MoveList_movePlace.2.1 22 = .ok (.getfield 9, 3) := by decide +kernel
theorem d_MoveList_movePlace_25 : decode M_MoveList_movePlace.2.1 25 = .ok (.iconst 0, 1) := by decide +kernel
theorem d_MoveList_movePlace_26 : decode M_MoveList_movePlace.2.1 26 = .ok (.aload_n 0, 1) := by decide +kernel
theorem d_MoveList_movePlace_27 : decode M_MoveList_movePlace.2.1 27 = .ok (.getfield 9, 3) := by decide +kernel
theorem d_MoveList_movePlace_30 : decode M_MoveList_movePlace.2.1 30 = .ok (.iconst 1, 1) := by decide +kernel
theorem d_MoveList_movePlace_31 : decode M_MoveList_movePlace.2.1 31 = .ok (.iload_n 1, 1) := by decide +kernel
theorem d_MoveList_movePlace_32 : decode M_MoveList_movePlace.2.1 32 = .ok (.invokestatic 25, 3) := by decide +kernel
theorem d_MoveList_movePlace_35 : decode M_MoveList_movePlace.2.1 35 = .ok (.aload_n 0, 1) := by decide +kernel
theorem d_MoveList_movePlace_36 : decode M_MoveList_movePlace.2.1 36 = .ok (.getfield 9, 3) := by decide +kernel
theorem d_MoveList_movePlace_39 : decode M_MoveList_movePlace.2.1 39 = .ok (.iconst 0, 1) := by decide +kernel
theorem d_MoveList_movePlace_40 : decode M_MoveList_movePlace.2.1 40 = .ok (.iload_n 2, 1) := by decide +kernel
theorem d_MoveList_movePlace_41 : decode M_MoveList_movePlace.2.1 41 = .ok (.iastore, 1) := by decide +kernel
theorem d_MoveList_movePlace_42 : decode M_MoveList_movePlace.2.1 42 = .ok (.iload_n 2, 1) := by decide +kernel
theorem d_MoveList_movePlace_43 : decode M_MoveList_movePlace.2.1 43 = .ok (.ireturn, 1) := by decide +kernel
theorem d_Picker_init_0 : decode M_Picker_init.2.1 0 = .ok (.aload_n 0, 1) := by decide +kernel
theorem d_Picker_init_1 : decode M_Picker_init.2.1 1 = .ok (.invokespecial 3, 3) := by decide +kernel
theorem d_Picker_init_4 : decode M_Picker_init.2.1 4 = .ok (.aload_n 0, 1) := by decide +kernel
theorem d_Picker_init_5 : decode M_Picker_init.2.1 5 = .ok (.new 9, 3) := by decide +kernel
theorem d_Picker_init_8 : decode M_Picker_init.2.1 8 = .ok (.dup, 1) := by decide +kernel
theorem d_Picker_init_9 : decode M_Picker_init.2.1 9 = .ok (.invokespecial 11, 3) := by decide +kernel
theorem d_Picker_init_12 : decode M_Picker_init.2.1 12 = .ok (.putfield 12, 3) := by decide +kernel
theorem d_Picker_init_15 : decode M_Picker_init.2.1 15 = .ok (.aload_n 0, 1) := by decide +kernel
theorem d_Picker_init_16 : decode M_Picker_init.2.1 16 = .ok (.bipush 66, 2) := by decide +kernel
theorem d_Picker_init_18 : decode M_Picker_init.2.1 18 = .ok (.newarray .int, 2) := by decide +kernel
theorem d_Picker_init_20 : decode M_Picker_init.2.1 20 = .ok (.putfield 18, 3) := by decide +kernel
theorem d_Picker_init_23 : decode M_Picker_init.2.1 23 = .ok (.return_, 1) := by decide +kernel
theorem d_Picker_pickTables_0 : decode M_Picker_pickTables.2.1 0 = .ok (.aload_n 1, 1) := by decide +kernel
theorem d_Picker_pickTables_1 : decode M_Picker_pickTables.2.1 1 = .ok (.aload_n 1, 1) := by decide +kernel
theorem d_Picker_pickTables_2 : decode M_Picker_pickTables.2.1 2 = .ok (.getfield 22, 3) := by decide +kernel
theorem d_Picker_pickTables_5 : decode M_Picker_pickTables.2.1 5 = .ok (.bipush 8, 2) := by decide +kernel
theorem d_Picker_pickTables_7 : decode M_Picker_pickTables.2.1 7 = .ok (.iadd, 1) := by decide +kernel
theorem d_Picker_pickTables_8 : decode M_Picker_pickTables.2.1 8 = .ok (.iconst 1, 1) := by decide +kernel
theorem d_Picker_pickTables_9 : decode M_Picker_pickTables.2.1 9 = .ok (.isub, 1) := by decide +kernel
theorem d_Picker_pickTables_10 : decode M_Picker_pickTables.2.1 10 = .ok (.bipush 8, 2) := by decide +kernel
theorem d_Picker_pickTables_12 : decode M_Picker_pickTables.2.1 12 = .ok (.idiv, 1) := by decide +kernel
theorem d_Picker_pickTables_13 : decode M_Picker_pickTables.2.1 13 = .ok (.putfield 28, 3) := by decide +kernel
theorem d_Picker_pickTables_16 : decode M_Picker_pickTables.2.1 16 = .ok (.aload_n 1, 1) := by decide +kernel
theorem d_Picker_pickTables_17 : decode M_Picker_pickTables.2.1 17 = .ok (.aload_n 1, 1) := by decide +kernel
theorem d_Picker_pickTables_18 : decode M_Picker_pickTables.2.1 18 = .ok (.getfield 28, 3) := by decide +kernel
theorem d_Picker_pickTables_21 : decode M_Picker_pickTables.2.1 21 = .ok (.iconst 4, 1) := by decide +kernel
theorem d_Picker_pickTables_22 : decode M_Picker_pickTables.2.1 22 = .ok (.if_icmp .le 7, 3) := by decide +kernel
theorem d_Picker_pickTables_25 : decode M_Picker_pickTables.2.1 25 = .ok (.iconst 3, 1) := by decide +kernel
theorem d_Picker_pickTables_26 : decode M_Picker_pickTables.2.1 26 = .ok (.goto 4, 3) := by decide +kernel
theorem d_Picker_pickTables_29 : decode M_Picker_pickTables.2.1 29 = .ok (.iconst 2, 1) := by decide +kernel
theorem d_Picker_pickTables_30 : decode M_Picker_pickTables.2.1 30 = .ok (.putfield 31, 3) := by decide +kernel
theorem d_Picker_pickTables_33 : decode M_Picker_pickTables.2.1 33 = .ok (.iconst 0, 1) := by decide +kernel
theorem d_Picker_pickTables_34 : decode M_Picker_pickTables.2.1 34 = .ok (.istore_n 2, 1) := by decide +kernel
theorem d_Picker_pickTables_35 : decode M_Picker_pickTables.2.1 35 = .ok (.iload_n 2, 1) := by decide +kernel
theorem d_Picker_pickTables_36 : decode M_Picker_pickTables.2.1 36 = .ok (.aload_n 1, 1) := by decide +kernel
theorem d_Picker_pickTables_37 : decode M_Picker_pickTables.2.1 37 = .ok (.getfield 28, 3) := by decide +kernel
theorem d_Picker_pickTables_40 : decode M_Picker_pickTables.2.1 40 = .ok (.if_icmp .ge 21, 3) := by decide +kernel
theorem d_Picker_pickTables_43 : decode M_Picker_pickTables.2.1 43 = .ok (.aload_n 1, 1) := by decide +kernel
theorem d_Picker_pickTables_44 : decode M_Picker_pickTables.2.1 44 = .ok (.getfield 34, 3) := by decide +kernel
theorem d_Picker_pickTables_47 : decode M_Picker_pickTables.2.1 47 = .ok (.iload_n 2, 1) := by decide +kernel
theorem d_Picker_pickTables_48 : decode M_Picker_pickTables.2.1 48 = .ok (.iload_n 2, 1) := by decide +kernel
theorem d_Picker_pickTables_49 : decode M_Picker_pickTables.2.1 49 = .ok (.aload_n 1, 1) := by decide +kernel
theorem d_Picker_pickTables_50 : decode M_Picker_pickTables.2.1 50 = .ok (.getfield 31, 3) := by decide +kernel
theorem d_Picker_pickTables_53 : decode M_Picker_pickTables.2.1 53 = .ok (.irem, 1) := by decide +kernel
theorem d_Picker_pickTables_54 : decode M_Picker_pickTables.2.1 54 = .ok (.iastore, 1) := by decide +kernel
theorem d_Picker_pickTables_55 : decode M_Picker_pickTables.2.1 55 = .ok (.iinc 2 1, 3) := by decide +kernel
theorem d_Picker_pickTables_58 : decode M_Picker_pickTables.2.1 58 = .ok (.goto (-23), 3) := by decide +kernel
theorem d_Picker_pickTables_61 : decode M_Picker_pickTables.2.1 61 = .ok (.iconst 0, 1) := by decide +kernel
theorem d_Picker_pickTables_62 : decode M_Picker_pickTables.2.1 62 = .ok (.istore_n 2, 1) := by decide +kernel
theorem d_Picker_pickTables_63 : decode M_Picker_pickTables.2.1 63 = .ok (.iload_n 2, 1) := by decide +kernel
theorem d_Picker_pickTables_64 : decode M_Picker_pickTables.2.1 64 = .ok (.iconst 3, 1) := by decide +kernel
theorem d_Picker_pickTables_65 : decode M_Picker_pickTables.2.1 65 = .ok (.if_icmp .ge 80, 3) := by decide +kernel
theorem d_Picker_pickTables_68 : decode M_Picker_pickTables.2.1 68 = .ok (.iconst 0, 1) := by decide +kernel
theorem d_Picker_pickTables_69 : decode M_Picker_pickTables.2.1 69 = .ok (.istore_n 3, 1) := by decide +kernel
theorem d_Picker_pickTables_70 : decode M_Picker_pickTables.2.1 70 = .ok (.iload_n 3, 1) := by decide +kernel
theorem d_Picker_pickTables_71 : decode M_Picker_pickTables.2.1 71 = .ok (.aload_n 1, 1) := by decide +kernel
theorem d_Picker_pickTables_72 : decode M_Picker_pickTables.2.1 72 = .ok (.getfield 31, 3) := by decide +kernel
theorem d_Picker_pickTables_75 : decode M_Picker_pickTables.2.1 75 = .ok (.if_icmp .ge 36, 3) := by decide +kernel
theorem d_Picker_pickTables_78 : decode M_Picker_pickTables.2.1 78 = .ok (.aload_n 0, 1) := by decide +kernel
theorem d_Picker_pickTables_79 : decode M_Picker_pickTables.2.1 79 = .ok (.aload_n 1, 1) := by decide +kernel
theorem d_Picker_pickTables_80 : decode M_Picker_pickTables.2.1 80 = .ok (.iload_n 3, 1) := by decide +kernel
theorem d_Picker_pickTables_81 : decode M_Picker_pickTables.2.1 81 = .ok (.invokevirtual 37, 3) := by decide +kernel
theorem d_Picker_pickTables_84 : decode M_Picker_pickTables.2.1 84 = .ok (.aload_n 0, 1) := by decide +kernel
theorem d_Picker_pickTables_85 : decode M_Picker_pickTables.2.1 85 = .ok (.getfield 12, 3) := by decide +kernel
theorem d_Picker_pickTables_88 : decode M_Picker_pickTables.2.1 88 = .ok (.aload_n 0, 1) := by decide +kernel
theorem d_Picker_pickTables_89 : decode M_Picker_pickTables.2.1 89 = .ok (.getfield 18, 3) := by decide +kernel
theorem d_Picker_pickTables_92 : decode M_Picker_pickTables.2.1 92 = .ok (.aload_n 1, 1) := by decide +kernel
theorem d_Picker_pickTables_93 : decode M_Picker_pickTables.2.1 93 = .ok (.invokevirtual 41, 3) := by decide +kernel
theorem d_Picker_pickTables_96 : decode M_Picker_pickTables.2.1 96 = .ok (.aload_n 1, 1) := by decide +kernel
theorem d_Picker_pickTables_97 : decode M_Picker_pickTables.2.1 97 = .ok (.getfield 45, 3) := by decide +kernel
theorem d_Picker_pickTables_100 : decode M_Picker_pickTables.2.1 100 = .ok (.iload_n 3, 1) := by decide +kernel
theorem d_Picker_pickTables_101 : decode M_Picker_pickTables.2.1 101 = .ok (.aaload, 1) := by decide +kernel
theorem d_Picker_pickTables_102 : decode M_Picker_pickTables.2.1 102 = .ok (.invokevirtual 49, 3) := by decide +kernel
theorem d_Picker_pickTables_105 : decode M_Picker_pickTables.2.1 105 = .ok (.iinc 3 1, 3) := by decide +kernel
theorem d_Picker_pickTables_108 : decode M_Picker_pickTables.2.1 108 = .ok (.goto (-38), 3) := by decide +kernel
theorem d_Picker_pickTables_111 : decode M_Picker_pickTables.2.1 111 = .ok (.iconst 0, 1) := by decide +kernel
theorem d_Picker_pickTables_112 : decode M_Picker_pickTables.2.1 112 = .ok (.istore_n 3, 1) := by decide +kernel
theorem d_Picker_pickTables_113 : decode M_Picker_pickTables.2.1 113 = .ok (.iload_n 3, 1) := by decide +kernel
theorem d_Picker_pickTables_114 : decode M_Picker_pickTables.2.1 114 = .ok (.aload_n 1, 1) := by decide +kernel
theorem d_Picker_pickTables_115 : decode M_Picker_pickTables.2.1 115 = .ok (.getfield 28, 3) := by decide +kernel
theorem d_Picker_pickTables_118 : decode M_Picker_pickTables.2.1 118 = .ok (.if_icmp .ge 21, 3) := by decide +kernel
theorem d_Picker_pickTables_121 : decode M_Picker_pickTables.2.1 121 = .ok (.aload_n 1, 1) := by decide +kernel
theorem d_Picker_pickTables_122 : decode M_Picker_pickTables.2.1 122 = .ok (.getfield 34, 3) := by decide +kernel
theorem d_Picker_pickTables_125 : decode M_Picker_pickTables.2.1 125 = .ok (.iload_n 3, 1) := by decide +kernel
theorem d_Picker_pickTables_126 : decode M_Picker_pickTables.2.1 126 = .ok (.aload_n 0, 1) := by decide +kernel
theorem d_Picker_pickTables_127 : decode M_Picker_pickTables.2.1 127 = .ok (.aload_n 1, 1) := by decide +kernel
theorem d_Picker_pickTables_128 : decode M_Picker_pickTables.2.1 128 = .ok (.iload_n 3, 1) := by decide +kernel
theorem d_Picker_pickTables_129 : decode M_Picker_pickTables.2.1 129 = .ok (.invokevirtual 53, 3) := by decide +kernel
theorem d_Picker_pickTables_132 : decode M_Picker_pickTables.2.1 132 = .ok (.iastore, 1) := by decide +kernel
theorem d_Picker_pickTables_133 : decode M_Picker_pickTables.2.1 133 = .ok (.iinc 3 1, 3) := by decide +kernel
theorem d_Picker_pickTables_136 : decode M_Picker_pickTables.2.1 136 = .ok (.goto (-23), 3) := by decide +kernel
theorem d_Picker_pickTables_139 : decode M_Picker_pickTables.2.1 139 = .ok (.iinc 2 1, 3) := by decide +kernel
theorem d_Picker_pickTables_142 : decode M_Picker_pickTables.2.1 142 = .ok (.goto (-79), 3) := by decide +kernel
theorem d_Picker_pickTables_145 : decode M_Picker_pickTables.2.1 145 = .ok (.return_, 1) := by decide +kernel
theorem d_Picker_weigh_0 : decode M_Picker_weigh.2.1 0 = .ok (.aload_n 0, 1) := by decide +kernel
theorem d_Picker_weigh_1 : decode M_Picker_weigh.2.1 1 = .ok (.getfield 18, 3) := by decide +kernel
theorem d_Picker_weigh_4 : decode M_Picker_weigh.2.1 4 = .ok (.iconst 0, 1) := by decide +kernel
theorem d_Picker_weigh_5 : decode M_Picker_weigh.2.1 5 = .ok (.invokestatic 57, 3) := by decide +kernel
theorem d_Picker_weigh_8 : decode M_Picker_weigh.2.1 8 = .ok (.iconst 0, 1) := by decide +kernel
theorem d_Picker_weigh_9 : decode M_Picker_weigh.2.1 9 = .ok (.istore_n 3, 1) := by decide +kernel
theorem d_Picker_weigh_10 : decode M_Picker_weigh.2.1 10 = .ok (.iload_n 3, 1) := by decide +kernel
theorem d_Picker_weigh_11 : decode M_Picker_weigh.2.1 11 = .ok (.aload_n 1, 1) := by decide +kernel
theorem d_Picker_weigh_12 : decode M_Picker_weigh.2.1 12 = .ok (.getfield 22, 3) := by decide +kernel
theorem d_Picker_weigh_15 : decode M_Picker_weigh.2.1 15 = .ok (.if_icmp .ge 33, 3) := by decide +kernel
theorem d_Picker_weigh_18 : decode M_Picker_weigh.2.1 18 = .ok (.aload_n 1, 1) := by decide +kernel
theorem d_Picker_weigh_19 : decode M_Picker_weigh.2.1 19 = .ok (.iload_n 3, 1) := by decide +kernel
theorem d_Picker_weigh_20 : decode M_Picker_weigh.2.1 20 = .ok (.invokevirtual 63, 3) := by decide +kernel
theorem d_Picker_weigh_23 : decode M_Picker_weigh.2.1 23 = .ok (.iload_n 2, 1) := by decide +kernel
theorem d_Picker_weigh_24 : decode M_Picker_weigh.2.1 24 = .ok (.if_icmp .ne 18, 3) := by decide +kernel
theorem d_Picker_weigh_27 : decode M_Picker_weigh.2.1 27 = .ok (.aload_n 0, 1) := by decide +kernel
theorem d_Picker_weigh_28 : decode M_Picker_weigh.2.1 28 = .ok (.getfield 18, 3) := by decide +kernel
theorem d_Picker_weigh_31 : decode M_Picker_weigh.2.1 31 = .ok (.aload_n 1, 1) := by decide +kernel
theorem d_Picker_weigh_32 : decode M_Picker_weigh.2.1 32 = .ok (.getfield 67, 3) := by decide +kernel
theorem d_Picker_weigh_35 : decode M_Picker_weigh.2.1 35 = .ok (.iload_n 3, 1) := by decide +kernel
theorem d_Picker_weigh_36 : decode M_Picker_weigh.2.1 36 = .ok (.iaload, 1) := by decide +kernel
theorem d_Picker_weigh_37 : decode M_Picker_weigh.2.1 37 = .ok (.dup2, 1) := by decide +kernel
theorem d_Picker_weigh_38 : decode M_Picker_weigh.2.1 38 = .ok (.iaload, 1) := by decide +kernel
theorem d_Picker_weigh_39 : decode M_Picker_weigh.2.1 39 = .ok (.iconst 1, 1) := by decide +kernel
theorem d_Picker_weigh_40 : decode M_Picker_weigh.2.1 40 = .ok (.iadd, 1) := by decide +kernel
theorem d_Picker_weigh_41 : decode M_Picker_weigh.2.1 41 = .ok (.iastore, 1) := by decide +kernel
theorem d_Picker_weigh_42 : decode M_Picker_weigh.2.1 42 = .ok (.iinc 3 1, 3) := by decide +kernel
theorem d_Picker_weigh_45 : decode M_Picker_weigh.2.1 45 = .ok (.goto (-35), 3) := by decide +kernel
theorem d_Picker_weigh_48 : decode M_Picker_weigh.2.1 48 = .ok (.iconst 0, 1) := by decide +kernel
theorem d_Picker_weigh_49 : decode M_Picker_weigh.2.1 49 = .ok (.istore_n 3, 1) := by decide +kernel
theorem d_Picker_weigh_50 : decode M_Picker_weigh.2.1 50 = .ok (.iload_n 3, 1) := by decide +kernel
theorem d_Picker_weigh_51 : decode M_Picker_weigh.2.1 51 = .ok (.aload_n 0, 1) := by decide +kernel
theorem d_Picker_weigh_52 : decode M_Picker_weigh.2.1 52 = .ok (.getfield 18, 3) := by decide +kernel
theorem d_Picker_weigh_55 : decode M_Picker_weigh.2.1 55 = .ok (.arraylength, 1) := by decide +kernel
theorem d_Picker_weigh_56 : decode M_Picker_weigh.2.1 56 = .ok (.if_icmp .ge 25, 3) := by decide +kernel
theorem d_Picker_weigh_59 : decode M_Picker_weigh.2.1 59 = .ok (.aload_n 0, 1) := by decide +kernel
theorem d_Picker_weigh_60 : decode M_Picker_weigh.2.1 60 = .ok (.getfield 18, 3) := by decide +kernel
theorem d_Picker_weigh_63 : decode M_Picker_weigh.2.1 63 = .ok (.iload_n 3, 1) := by decide +kernel
theorem d_Picker_weigh_64 : decode M_Picker_weigh.2.1 64 = .ok (.aload_n 0, 1) := by decide +kernel
theorem d_Picker_weigh_65 : decode M_Picker_weigh.2.1 65 = .ok (.getfield 18, 3) := by decide +kernel
theorem d_Picker_weigh_68 : decode M_Picker_weigh.2.1 68 = .ok (.iload_n 3, 1) := by decide +kernel
theorem d_Picker_weigh_69 : decode M_Picker_weigh.2.1 69 = .ok (.iaload, 1) := by decide +kernel
theorem d_Picker_weigh_70 : decode M_Picker_weigh.2.1 70 = .ok (.iconst 1, 1) := by decide +kernel
theorem d_Picker_weigh_71 : decode M_Picker_weigh.2.1 71 = .ok (.invokestatic 70, 3) := by decide +kernel
theorem d_Picker_weigh_74 : decode M_Picker_weigh.2.1 74 = .ok (.iastore, 1) := by decide +kernel
theorem d_Picker_weigh_75 : decode M_Picker_weigh.2.1 75 = .ok (.iinc 3 1, 3) := by decide +kernel
theorem d_Picker_weigh_78 : decode M_Picker_weigh.2.1 78 = .ok (.goto (-28), 3) := by decide +kernel
theorem d_Picker_weigh_81 : decode M_Picker_weigh.2.1 81 = .ok (.return_, 1) := by decide +kernel
theorem d_Picker_cheapest_0 : decode M_Picker_cheapest.2.1 0 = .ok (.iconst 0, 1) := by decide +kernel
theorem d_Picker_cheapest_1 : decode M_Picker_cheapest.2.1 1 = .ok (.istore_n 3, 1) := by decide +kernel
theorem d_Picker_cheapest_2 : decode M_Picker_cheapest.2.1 2 = .ok (.iconst 1, 1) := by decide +kernel
theorem d_Picker_cheapest_3 : decode M_Picker_cheapest.2.1 3 = .ok (.istore 4, 2) := by decide +kernel
theorem d_Picker_cheapest_5 : decode M_Picker_cheapest.2.1 5 = .ok (.iload 4, 2) := by decide +kernel
theorem d_Picker_cheapest_7 : decode M_Picker_cheapest.2.1 7 = .ok (.aload_n 1, 1) := by decide +kernel
theorem d_Picker_cheapest_8 : decode M_Picker_cheapest.2.1 8 = .ok (.getfield 31, 3) := by decide +kernel
theorem d_Picker_cheapest_11 : decode M_Picker_cheapest.2.1 11 = .ok (.if_icmp .ge 30, 3) := by decide +kernel
theorem d_Picker_cheapest_14 : decode M_Picker_cheapest.2.1 14 = .ok (.aload_n 0, 1) := by decide +kernel
theorem d_Picker_cheapest_15 : decode M_Picker_cheapest.2.1 15 = .ok (.aload_n 1, 1) := by decide +kernel
theorem d_Picker_cheapest_16 : decode M_Picker_cheapest.2.1 16 = .ok (.iload_n 2, 1) := by decide +kernel
theorem d_Picker_cheapest_17 : decode M_Picker_cheapest.2.1 17 = .ok (.iload 4, 2) := by decide +kernel
theorem d_Picker_cheapest_19 : decode M_Picker_cheapest.2.1 19 = .ok (.invokevirtual 76, 3) := by decide +kernel
theorem d_Picker_cheapest_22 : decode M_Picker_cheapest.2.1 22 = .ok (.aload_n 0, 1) := by decide +kernel
theorem d_Picker_cheapest_23 : decode M_Picker_cheapest.2.1 23 = .ok (.aload_n 1, 1) := by decide +kernel
theorem d_Picker_cheapest_24 : decode M_Picker_cheapest.2.1 24 = .ok (.iload_n 2, 1) := by decide +kernel
theorem d_Picker_cheapest_25 : decode M_Picker_cheapest.2.1 25 = .ok (.iload_n 3, 1) := by decide +kernel
theorem d_Picker_cheapest_26 : decode M_Picker_cheapest.2.1 26 = .ok (.invokevirtual 76, 3) := by decide +kernel
theorem d_Picker_cheapest_29 : decode M_Picker_cheapest.2.1 29 = .ok (.if_icmp .ge 6, 3) := by decide +kernel
theorem d_Picker_cheapest_32 : decode M_Picker_cheapest.2.1 32 = .ok (.iload 4, 2) := by decide +kernel
theorem d_Picker_cheapest_34 : decode M_Picker_cheapest.2.1 34 = .ok (.istore_n 3, 1) := by decide +kernel
theorem d_Picker_cheapest_35 : decode M_Picker_cheapest.2.1 35 = .ok (.iinc 4 1, 3) := by decide +kernel
theorem d_Picker_cheapest_38 : decode M_Picker_cheapest.2.1 38 = .ok (.goto (-33), 3) := by decide +kernel
theorem d_Picker_cheapest_41 : decode M_Picker_cheapest.2.1 41 = .ok (.iload_n 3, 1) := by decide +kernel
theorem d_Picker_cheapest_42 : decode M_Picker_cheapest.2.1 42 = .ok (.ireturn, 1) := by decide +kernel
theorem d_Picker_cost_0 : decode M_Picker_cost.2.1 0 = .ok (.aload_n 1, 1) := by decide +kernel
theorem d_Picker_cost_1 : decode M_Picker_cost.2.1 1 = .ok (.getfield 22, 3) := by decide +kernel
theorem d_Picker_cost_4 : decode M_Picker_cost.2.1 4 = .ok (.bipush 8, 2) := by decide +kernel
theorem d_Picker_cost_6 : decode M_Picker_cost.2.1 6 = .ok (.iload_n 2, 1) := by decide +kernel
theorem d_Picker_cost_7 : decode M_Picker_cost.2.1 7 = .ok (.iconst 1, 1) := by decide +kernel
theorem d_Picker_cost_8 : decode M_Picker_cost.2.1 8 = .ok (.iadd, 1) := by decide +kernel
theorem d_Picker_cost_9 : decode M_Picker_cost.2.1 9 = .ok (.imul, 1) := by decide +kernel
theorem d_Picker_cost_10 : decode M_Picker_cost.2.1 10 = .ok (.invokestatic 80, 3) := by decide +kernel
theorem d_Picker_cost_13 : decode M_Picker_cost.2.1 13 = .ok (.istore 4, 2) := by decide +kernel
theorem d_Picker_cost_15 : decode M_Picker_cost.2.1 15 = .ok (.iconst 0, 1) := by decide +kernel
theorem d_Picker_cost_16 : decode M_Picker_cost.2.1 16 = .ok (.istore 5, 2) := by decide +kernel
theorem d_Picker_cost_18 : decode M_Picker_cost.2.1 18 = .ok (.bipush 8, 2) := by decide +kernel
theorem d_Picker_cost_20 : decode M_Picker_cost.2.1 20 = .ok (.iload_n 2, 1) := by decide +kernel
theorem d_Picker_cost_21 : decode M_Picker_cost.2.1 21 = .ok (.imul, 1) := by decide +kernel
theorem d_Picker_cost_22 : decode M_Picker_cost.2.1 22 = .ok (.istore 6, 2) := by decide +kernel
theorem d_Picker_cost_24 : decode M_Picker_cost.2.1 24 = .ok (.iload 6, 2) := by decide +kernel
theorem d_Picker_cost_26 : decode M_Picker_cost.2.1 26 = .ok (.iload 4, 2) := by decide +kernel
theorem d_Picker_cost_28 : decode M_Picker_cost.2.1 28 = .ok (.if_icmp .ge 28, 3) := by decide +kernel
theorem d_Picker_cost_31 : decode M_Picker_cost.2.1 31 = .ok (.iload 5, 2) := by decide +kernel
theorem d_Picker_cost_33 : decode M_Picker_cost.2.1 33 = .ok (.aload_n 1, 1) := by decide +kernel
theorem d_Picker_cost_34 : decode M_Picker_cost.2.1 34 = .ok (.getfield 45, 3) := by decide +kernel
theorem d_Picker_cost_37 : decode M_Picker_cost.2.1 37 = .ok (.iload_n 3, 1) := by decide +kernel
theorem d_Picker_cost_38 : decode M_Picker_cost.2.1 38 = .ok (.aaload, 1) := by decide +kernel
theorem d_Picker_cost_39 : decode M_Picker_cost.2.1 39 = .ok (.aload_n 1, 1) := by decide +kernel
theorem d_Picker_cost_40 : decode M_Picker_cost.2.1 40 = .ok (.getfield 67, 3) := by decide +kernel
theorem d_Picker_cost_43 : decode M_Picker_cost.2.1 43 = .ok (.iload 6, 2) := by decide +kernel
theorem d_Picker_cost_45 : decode M_Picker_cost.2.1 45 = .ok (.iaload, 1) := by decide +kernel
theorem d_Picker_cost_46 : decode M_Picker_cost.2.1 46 = .ok (.iaload, 1) := by decide +kernel
theorem d_Picker_cost_47 : decode M_Picker_cost.2.1 47 = .ok (.iadd, 1) := by decide +kernel
theorem d_Picker_cost_48 : decode M_Picker_cost.2.1 48 = .ok (.istore 5, 2) := by decide +kernel
theorem d_Picker_cost_50 : decode M_Picker_cost.2.1 50 = .ok (.iinc 6 1, 3) := by decide +kernel
theorem d_Picker_cost_53 : decode M_Picker_cost.2.1 53 = .ok (.goto (-29), 3) := by decide +kernel
theorem d_Picker_cost_56 : decode M_Picker_cost.2.1 56 = .ok (.iload 5, 2) := by decide +kernel
theorem d_Picker_cost_58 : decode M_Picker_cost.2.1 58 = .ok (.ireturn, 1) := by decide +kernel
theorem d_Row_init_0 : decode M_Row_init.2.1 0 = .ok (.aload_n 0, 1) := by decide +kernel
theorem d_Row_init_1 : decode M_Row_init.2.1 1 = .ok (.invokespecial 1, 3) := by decide +kernel
theorem d_Row_init_4 : decode M_Row_init.2.1 4 = .ok (.aload_n 0, 1) := by decide +kernel
theorem d_Row_init_5 : decode M_Row_init.2.1 5 = .ok (.iconst 0, 1) := by decide +kernel
theorem d_Row_init_6 : decode M_Row_init.2.1 6 = .ok (.putfield 7, 3) := by decide +kernel
theorem d_Row_init_9 : decode M_Row_init.2.1 9 = .ok (.aload_n 0, 1) := by decide +kernel
theorem d_Row_init_10 : decode M_Row_init.2.1 10 = .ok (.iload_n 1, 1) := by decide +kernel
theorem d_Row_init_11 : decode M_Row_init.2.1 11 = .ok (.newarray .int, 2) := by decide +kernel
theorem d_Row_init_13 : decode M_Row_init.2.1 13 = .ok (.putfield 13, 3) := by decide +kernel
theorem d_Row_init_16 : decode M_Row_init.2.1 16 = .ok (.return_, 1) := by decide +kernel
theorem d_Row_hasRoom_0 : decode M_Row_hasRoom.2.1 0 = .ok (.iload_n 1, 1) := by decide +kernel
theorem d_Row_hasRoom_1 : decode M_Row_hasRoom.2.1 1 = .ok (.aload_n 0, 1) := by decide +kernel
theorem d_Row_hasRoom_2 : decode M_Row_hasRoom.2.1 2 = .ok (.getfield 13, 3) := by decide +kernel
theorem d_Row_hasRoom_5 : decode M_Row_hasRoom.2.1 5 = .ok (.arraylength, 1) := by decide +kernel
theorem d_Row_hasRoom_6 : decode M_Row_hasRoom.2.1 6 = .ok (.aload_n 0, 1) := by decide +kernel
theorem d_Row_hasRoom_7 : decode M_Row_hasRoom.2.1 7 = .ok (.getfield 7, 3) := by decide +kernel
theorem d_Row_hasRoom_10 : decode M_Row_hasRoom.2.1 10 = .ok (.isub, 1) := by decide +kernel
theorem d_Row_hasRoom_11 : decode M_Row_hasRoom.2.1 11 = .ok (.if_icmp .gt 7, 3) := by decide +kernel
theorem d_Row_hasRoom_14 : decode M_Row_hasRoom.2.1 14 = .ok (.iconst 1, 1) := by decide +kernel
theorem d_Row_hasRoom_15 : decode M_Row_hasRoom.2.1 15 = .ok (.goto 4, 3) := by decide +kernel
theorem d_Row_hasRoom_18 : decode M_Row_hasRoom.2.1 18 = .ok (.iconst 0, 1) := by decide +kernel
theorem d_Row_hasRoom_19 : decode M_Row_hasRoom.2.1 19 = .ok (.ireturn, 1) := by decide +kernel
theorem d_Row_add_0 : decode M_Row_add.2.1 0 = .ok (.aload_n 0, 1) := by decide +kernel
theorem d_Row_add_1 : decode M_Row_add.2.1 1 = .ok (.getfield 7, 3) := by decide +kernel
theorem d_Row_add_4 : decode M_Row_add.2.1 4 = .ok (.aload_n 0, 1) := by decide +kernel
theorem d_Row_add_5 : decode M_Row_add.2.1 5 = .ok (.getfield 13, 3) := by decide +kernel
theorem d_Row_add_8 : decode M_Row_add.2.1 8 = .ok (.arraylength, 1) := by decide +kernel
theorem d_Row_add_9 : decode M_Row_add.2.1 9 = .ok (.if_icmp .ge 23, 3) := by decide +kernel
theorem d_Row_add_12 : decode M_Row_add.2.1 12 = .ok (.aload_n 0, 1) := by decide +kernel
theorem d_Row_add_13 : decode M_Row_add.2.1 13 = .ok (.getfield 13, 3) := by decide +kernel
theorem d_Row_add_16 : decode M_Row_add.2.1 16 = .ok (.aload_n 0, 1) := by decide +kernel
theorem d_Row_add_17 : decode M_Row_add.2.1 17 = .ok (.getfield 7, 3) := by decide +kernel
theorem d_Row_add_20 : decode M_Row_add.2.1 20 = .ok (.iload_n 1, 1) := by decide +kernel
theorem d_Row_add_21 : decode M_Row_add.2.1 21 = .ok (.iastore, 1) := by decide +kernel
theorem d_Row_add_22 : decode M_Row_add.2.1 22 = .ok (.aload_n 0, 1) := by decide +kernel
theorem d_Row_add_23 : decode M_Row_add.2.1 23 = .ok (.dup, 1) := by decide +kernel
theorem d_Row_add_24 : decode M_Row_add.2.1 24 = .ok (.getfield 7, 3) := by decide +kernel
theorem d_Row_add_27 : decode M_Row_add.2.1 27 = .ok (.iconst 1, 1) := by decide +kernel
theorem d_Row_add_28 : decode M_Row_add.2.1 28 = .ok (.iadd, 1) := by decide +kernel
theorem d_Row_add_29 : decode M_Row_add.2.1 29 = .ok (.putfield 7, 3) := by decide +kernel
theorem d_Row_add_32 : decode M_Row_add.2.1 32 = .ok (.return_, 1) := by decide +kernel
theorem d_Row_addAll_0 : decode M_Row_addAll.2.1 0 = .ok (.aload_n 0, 1) := by decide +kernel
theorem d_Row_addAll_1 : decode M_Row_addAll.2.1 1 = .ok (.aload_n 1, 1) := by decide +kernel
theorem d_Row_addAll_2 : decode M_Row_addAll.2.1 2 = .ok (.getfield 7, 3) := by decide +kernel
theorem d_Row_addAll_5 : decode M_Row_addAll.2.1 5 = .ok (.invokevirtual 17, 3) := by decide +kernel
theorem d_Row_addAll_8 : decode M_Row_addAll.2.1 8 = .ok (.ifCond .eq 36, 3) := by decide +kernel
theorem d_Row_addAll_11 : decode M_Row_addAll.2.1 11 = .ok (.aload_n 1, 1) := by decide +kernel
theorem d_Row_addAll_12 : decode M_Row_addAll.2.1 12 = .ok (.getfield 13, 3) := by decide +kernel
theorem d_Row_addAll_15 : decode M_Row_addAll.2.1 15 = .ok (.iconst 0, 1) := by decide +kernel
theorem d_Row_addAll_16 : decode M_Row_addAll.2.1 16 = .ok (.aload_n 0, 1) := by decide +kernel
theorem d_Row_addAll_17 : decode M_Row_addAll.2.1 17 = .ok (.getfield 13, 3) := by decide +kernel
theorem d_Row_addAll_20 : decode M_Row_addAll.2.1 20 = .ok (.aload_n 0, 1) := by decide +kernel
theorem d_Row_addAll_21 : decode M_Row_addAll.2.1 21 = .ok (.getfield 7, 3) := by decide +kernel
theorem d_Row_addAll_24 : decode M_Row_addAll.2.1 24 = .ok (.aload_n 1, 1) := by decide +kernel
theorem d_Row_addAll_25 : decode M_Row_addAll.2.1 25 = .ok (.getfield 7, 3) := by decide +kernel
theorem d_Row_addAll_28 : decode M_Row_addAll.2.1 28 = .ok (.invokestatic 21, 3) := by decide +kernel
theorem d_Row_addAll_31 : decode M_Row_addAll.2.1 31 = .ok (.aload_n 0, 1) := by decide +kernel
theorem d_Row_addAll_32 : decode M_Row_addAll.2.1 32 = .ok (.dup, 1) := by decide +kernel
theorem d_Row_addAll_33 : decode M_Row_addAll.2.1 33 = .ok (.getfield 7, 3) := by decide +kernel
theorem d_Row_addAll_36 : decode M_Row_addAll.2.1 36 = .ok (.aload_n 1, 1) := by decide +kernel
theorem d_Row_addAll_37 : decode M_Row_addAll.2.1 37 = .ok (.getfield 7, 3) := by decide +kernel
theorem d_Row_addAll_40 : decode M_Row_addAll.2.1 40 = .ok (.iadd, 1) := by decide +kernel
theorem d_Row_addAll_41 : decode M_Row_addAll.2.1 41 = .ok (.putfield 7, 3) := by decide +kernel
theorem d_Row_addAll_44 : decode M_Row_addAll.2.1 44 = .ok (.return_, 1) := by decide +kernel
theorem d_Row_cut_0 : decode M_Row_cut.2.1 0 = .ok (.iload_n 1, 1) := by decide +kernel
theorem d_Row_cut_1 : decode M_Row_cut.2.1 1 = .ok (.ifCond .lt 16, 3) := by decide +kernel
theorem d_Row_cut_4 : decode M_Row_cut.2.1 4 = .ok (.iload_n 1, 1) := by decide +kernel
theorem d_Row_cut_5 : decode M_Row_cut.2.1 5 = .ok (.aload_n 0, 1) := by decide +kernel
theorem d_Row_cut_6 : decode M_Row_cut.2.1 6 = .ok (.getfield 7, 3) := by decide +kernel
theorem d_Row_cut_9 : decode M_Row_cut.2.1 9 = .ok (.if_icmp .ge 8, 3) := by decide +kernel
theorem d_Row_cut_12 : decode M_Row_cut.2.1 12 = .ok (.aload_n 0, 1) := by decide +kernel
theorem d_Row_cut_13 : decode M_Row_cut.2.1 13 = .ok (.iload_n 1, 1) := by decide +kernel
theorem d_Row_cut_14 : decode M_Row_cut.2.1 14 = .ok (.putfield 7, 3) := by decide +kernel
theorem d_Row_cut_17 : decode M_Row_cut.2.1 17 = .ok (.return_, 1) := by decide +kernel
theorem d_Row_get_0 : decode M_Row_get.2.1 0 = .ok (.iload_n 1, 1) := by decide +kernel
theorem d_Row_get_1 : decode M_Row_get.2.1 1 = .ok (.ifCond .lt 20, 3) := by decide +kernel
theorem d_Row_get_4 : decode M_Row_get.2.1 4 = .ok (.iload_n 1, 1) := by decide +kernel
theorem d_Row_get_5 : decode M_Row_get.2.1 5 = .ok (.aload_n 0, 1) := by decide +kernel
theorem d_Row_get_6 : decode M_Row_get.2.1 6 = .ok (.getfield 7, 3) := by decide +kernel
theorem d_Row_get_9 : decode M_Row_get.2.1 9 = .ok (.if_icmp .ge 12, 3) := by decide +kernel
theorem d_Row_get_12 : decode M_Row_get.2.1 12 = .ok (.aload_n 0, 1) := by decide +kernel
theorem d_Row_get_13 : decode M_Row_get.2.1 13 = .ok (.getfield 13, 3) := by decide +kernel
theorem d_Row_get_16 : decode M_Row_get.2.1 16 = .ok (.iload_n 1, 1) := by decide +kernel
theorem d_Row_get_17 : decode M_Row_get.2.1 17 = .ok (.iaload, 1) := by decide +kernel
theorem d_Row_get_18 : decode M_Row_get.2.1 18 = .ok (.goto 4, 3) := by decide +kernel
theorem d_Row_get_21 : decode M_Row_get.2.1 21 = .ok (.iconst 0, 1) := by decide +kernel
theorem d_Row_get_22 : decode M_Row_get.2.1 22 = .ok (.ireturn, 1) := by decide +kernel
theorem d_Row_turnBit_0 : decode M_Row_turnBit.2.1 0 = .ok (.iload_n 1, 1) := by decide +kernel
theorem d_Row_turnBit_1 : decode M_Row_turnBit.2.1 1 = .ok (.ifCond .lt 35, 3) := by decide +kernel
theorem d_Row_turnBit_4 : decode M_Row_turnBit.2.1 4 = .ok (.iload_n 1, 1) := by decide +kernel
theorem d_Row_turnBit_5 : decode M_Row_turnBit.2.1 5 = .ok (.bipush 8, 2) := by decide +kernel
theorem d_Row_turnBit_7 : decode M_Row_turnBit.2.1 7 = .ok (.idiv, 1) := by decide +kernel
theorem d_Row_turnBit_8 : decode M_Row_turnBit.2.1 8 = .ok (.aload_n 0, 1) := by decide +kernel
theorem d_Row_turnBit_9 : decode M_Row_turnBit.2.1 9 = .ok (.getfield 7, 3) := by decide +kernel
theorem d_Row_turnBit_12 : decode M_Row_turnBit.2.1 12 = .ok (.if_icmp .ge 24, 3) := by decide +kernel
theorem d_Row_turnBit_15 : decode M_Row_turnBit.2.1 15 = .ok (.aload_n 0, 1) := by decide +kernel
theorem d_Row_turnBit_16 : decode M_Row_turnBit.2.1 16 = .ok (.getfield 13, 3) := by decide +kernel
theorem d_Row_turnBit_19 : decode M_Row_turnBit.2.1 19 = .ok (.iload_n 1, 1) := by decide +kernel
theorem d_Row_turnBit_20 : decode M_Row_turnBit.2.1 20 = .ok (.bipush 8, 2) := by decide +kernel
theorem d_Row_turnBit_22 : decode M_Row_turnBit.2.1 22 = .ok (.idiv, 1) := by decide +kernel
theorem d_Row_turnBit_23 : decode M_Row_turnBit.2.1 23 = .ok (.dup2, 1) := by decide +kernel
theorem d_Row_turnBit_24 : decode M_Row_turnBit.2.1 24 = .ok (.iaload, 1) := by decide +kernel
theorem d_Row_turnBit_25 : decode M_Row_turnBit.2.1 25 = .ok (.iconst 1, 1) := by decide +kernel
theorem d_Row_turnBit_26 : decode M_Row_turnBit.2.1 26 = .ok (.bipush 7, 2) := by decide +kernel
theorem d_Row_turnBit_28 : decode M_Row_turnBit.2.1 28 = .ok (.iload_n 1, 1) := by decide +kernel
theorem d_Row_turnBit_29 : decode M_Row_turnBit.2.1 29 = .ok (.bipush 8, 2) := by decide +kernel
theorem d_Row_turnBit_31 : decode M_Row_turnBit.2.1 31 = .ok (.irem, 1) := by decide +kernel
theorem d_Row_turnBit_32 : decode M_Row_turnBit.2.1 32 = .ok (.isub, 1) := by decide +kernel
theorem d_Row_turnBit_33 : decode M_Row_turnBit.2.1 33 = .ok (.ishl, 1) := by decide +kernel
theorem d_Row_turnBit_34 : decode M_Row_turnBit.2.1 34 = .ok (.ixor, 1) := by decide +kernel
theorem d_Row_turnBit_35 : decode M_Row_turnBit.2.1 35 = .ok (.iastore, 1) := by decide +kernel
theorem d_Row_turnBit_36 : decode M_Row_turnBit.2.1 36 = .ok (.return_, 1) := by decide +kernel
theorem d_Trees_init_0 : decode M_Trees_init.2.1 0 = .ok (.aload_n 0, 1) := by decide +kernel
theorem d_Trees_init_1 : decode M_Trees_init.2.1 1 = .ok (.invokespecial 3, 3) := by decide +kernel
theorem d_Trees_init_4 : decode M_Trees_init.2.1 4 = .ok (.aload_n 0, 1) := by decide +kernel
theorem d_Trees_init_5 : decode M_Trees_init.2.1 5 = .ok (.sipush 132, 3) := by decide +kernel
theorem d_Trees_init_8 : decode M_Trees_init.2.1 8 = .ok (.newarray .int, 2) := by decide +kernel
theorem d_Trees_init_10 : decode M_Trees_init.2.1 10 = .ok (.putfield 11, 3) := by decide +kernel
theorem d_Trees_init_13 : decode M_Trees_init.2.1 13 = .ok (.aload_n 0, 1) := by decide +kernel
theorem d_Trees_init_14 : decode M_Trees_init.2.1 14 = .ok (.sipush 132, 3) := by decide +kernel
theorem d_Trees_init_17 : decode M_Trees_init.2.1 17 = .ok (.newarray .int, 2) := by decide +kernel
theorem d_Trees_init_19 : decode M_Trees_init.2.1 19 = .ok (.putfield 15, 3) := by decide +kernel
theorem d_Trees_init_22 : decode M_Trees_init.2.1 22 = .ok (.aload_n 0, 1) := by decide +kernel
theorem d_Trees_init_23 : decode M_Trees_init.2.1 23 = .ok (.sipush 132, 3) := by decide +kernel
theorem d_Trees_init_26 : decode M_Trees_init.2.1 26 = .ok (.newarray .int, 2) := by decide +kernel
theorem d_Trees_init_28 : decode M_Trees_init.2.1 28 = .ok (.putfield 18, 3) := by decide +kernel
theorem d_Trees_init_31 : decode M_Trees_init.2.1 31 = .ok (.aload_n 0, 1) := by decide +kernel
theorem d_Trees_init_32 : decode M_Trees_init.2.1 32 = .ok (.bipush 66, 2) := by decide +kernel
theorem d_Trees_init_34 : decode M_Trees_init.2.1 34 = .ok (.newarray .int, 2) := by decide +kernel
theorem d_Trees_init_36 : decode M_Trees_init.2.1 36 = .ok (.putfield 21, 3) := by decide +kernel
theorem d_Trees_init_39 : decode M_Trees_init.2.1 39 = .ok (.aload_n 0, 1) := by decide +kernel
theorem d_Trees_init_40 : decode M_Trees_init.2.1 40 = .ok (.iconst 0, 1) := by decide +kernel
theorem d_Trees_init_41 : decode M_Trees_init.2.1 41 = .ok (.putfield 24, 3) := by decide +kernel
theorem d_Trees_init_44 : decode M_Trees_init.2.1 44 = .ok (.aload_n 0, 1) := by decide +kernel
theorem d_Trees_init_45 : decode M_Trees_init.2.1 45 = .ok (.iconst 0, 1) := by decide +kernel
theorem d_Trees_init_46 : decode M_Trees_init.2.1 46 = .ok (.putfield 28, 3) := by decide +kernel
theorem d_Trees_init_49 : decode M_Trees_init.2.1 49 = .ok (.aload_n 0, 1) := by decide +kernel
theorem d_Trees_init_50 : decode M_Trees_init.2.1 50 = .ok (.iconst 0, 1) := by decide +kernel
theorem d_Trees_init_51 : decode M_Trees_init.2.1 51 = .ok (.putfield 31, 3) := by decide +kernel
theorem d_Trees_init_54 : decode M_Trees_init.2.1 54 = .ok (.return_, 1) := by decide +kernel
theorem d_Trees_findLengths_0 : decode M_Trees_findLengths.2.1 0 = .ok (.aload_n 0, 1) := by decide +kernel
theorem d_Trees_findLengths_1 : decode M_Trees_findLengths.2.1 1 = .ok (.iload_n 2, 1) := by decide +kernel
theorem d_Trees_findLengths_2 : decode M_Trees_findLengths.2.1 2 = .ok (.bipush 66, 2) := by decide +kernel
theorem d_Trees_findLengths_4 : decode M_Trees_findLengths.2.1 4 = .ok (.invokestatic 34, 3) := by decide +kernel
theorem d_Trees_findLengths_7 : decode M_Trees_findLengths.2.1 7 = .ok (.aload_n 1, 1) := by decide +kernel
theorem d_Trees_findLengths_8 : decode M_Trees_findLengths.2.1 8 = .ok (.arraylength, 1) := by decide +kernel
theorem d_Trees_findLengths_9 : decode M_Trees_findLengths.2.1 9 = .ok (.aload_n 3, 1) := by decide +kernel
theorem d_Trees_findLengths_10 : decode M_Trees_findLengths.2.1 10 = .ok (.arraylength, 1) := by decide +kernel
theorem d_Trees_findLengths_11 : decode M_Trees_findLengths.2.1 11 = .ok (.invokestatic 34, 3) := by decide +kernel
theorem d_Trees_findLengths_14 : decode M_Trees_findLengths.2.1 14 = .ok (.invokestatic 34, 3) := by decide +kernel
theorem d_Trees_findLengths_17 : decode M_Trees_findLengths.2.1 17 = .ok (.putfield 24, 3) := by decide +kernel
theorem d_Trees_findLengths_20 : decode M_Trees_findLengths.2.1 20 = .ok (.aload_n 0, 1) := by decide +kernel
theorem d_Trees_findLengths_21 : decode M_Trees_findLengths.2.1 21 = .ok (.getfield 24, 3) := by decide +kernel
theorem d_Trees_findLengths_24 : decode M_Trees_findLengths.2.1 24 = .ok (.iconst 1, 1) := by decide +kernel
theorem d_Trees_findLengths_25 : decode M_Trees_findLengths.2.1 25 = .ok (.if_icmp .ge 4, 3) := by decide +kernel
theorem d_Trees_findLengths_28 : decode M_Trees_findLengths.2.1 28 = .ok (.return_, 1) := by decide +kernel
theorem d_Trees_findLengths_29 : decode M_Trees_findLengths.2.1 29 = .ok (.aload_n 1, 1) := by decide +kernel
theorem d_Trees_findLengths_30 : decode M_Trees_findLengths.2.1 30 = .ok (.iconst 0, 1) := by decide +kernel
theorem d_Trees_findLengths_31 : decode M_Trees_findLengths.2.1 31 = .ok (.aload_n 0, 1) := by decide +kernel
theorem d_Trees_findLengths_32 : decode M_Trees_findLengths.2.1 32 = .ok (.getfield 11, 3) := by decide +kernel
theorem d_Trees_findLengths_35 : decode M_Trees_findLengths.2.1 35 = .ok (.iconst 0, 1) := by decide +kernel
theorem d_Trees_findLengths_36 : decode M_Trees_findLengths.2.1 36 = .ok (.aload_n 0, 1) := by decide +kernel
theorem d_Trees_findLengths_37 : decode M_Trees_findLengths.2.1 37 = .ok (.getfield 24, 3) := by decide +kernel
theorem d_Trees_findLengths_40 : decode M_Trees_findLengths.2.1 40 = .ok (.invokestatic 40, 3) := by decide +kernel
theorem d_Trees_findLengths_43 : decode M_Trees_findLengths.2.1 43 = .ok (.aload_n 0, 1) := by decide +kernel
theorem d_Trees_findLengths_44 : decode M_Trees_findLengths.2.1 44 = .ok (.invokevirtual 46, 3) := by decide +kernel
theorem d_Trees_findLengths_47 : decode M_Trees_findLengths.2.1 47 = .ok (.aload_n 0, 1) := by decide +kernel
theorem d_Trees_findLengths_48 : decode M_Trees_findLengths.2.1 48 = .ok (.invokevirtual 49, 3) := by decide +kernel
theorem d_Trees_findLengths_51 : decode M_Trees_findLengths.2.1 51 = .ok (.aload_n 0, 1) := by decide +kernel
theorem d_Trees_findLengths_52 : decode M_Trees_findLengths.2.1 52 = .ok (.invokevirtual 52, 3) := by decide +kernel
theorem d_Trees_findLengths_55 : decode M_Trees_findLengths.2.1 55 = .ok (.aload_n 0, 1) := by decide +kernel
theorem d_Trees_findLengths_56 : decode M_Trees_findLengths.2.1 56 = .ok (.getfield 18, 3) := by decide +kernel
theorem d_Trees_findLengths_59 : decode M_Trees_findLengths.2.1 59 = .ok (.iconst 0, 1) := by decide +kernel
theorem d_Trees_findLengths_60 : decode M_Trees_findLengths.2.1 60 = .ok (.aload_n 3, 1) := by decide +kernel
theorem d_Trees_findLengths_61 : decode M_Trees_findLengths.2.1 61 = .ok (.iconst 0, 1) := by decide +kernel
theorem d_Trees_findLengths_62 : decode M_Trees_findLengths.2.1 62 = .ok (.aload_n 0, 1) := by decide +kernel
theorem d_Trees_findLengths_63 : decode M_Trees_findLengths.2.1 63 = .ok (.getfield 24, 3) := by decide +kernel
theorem d_Trees_findLengths_66 : decode M_Trees_findLengths.2.1 66 = .ok (.invokestatic 40, 3) := by decide +kernel
theorem d_Trees_findLengths_69 : decode M_Trees_findLengths.2.1 69 = .ok (.return_, 1) := by decide +kernel
theorem d_Trees_sortSymbols_0 : decode M_Trees_sortSymbols.2.1 0 = .ok (.iconst 0, 1) := by decide +kernel
theorem d_Trees_sortSymbols_1 : decode M_Trees_sortSymbols.2.1 1 = .ok (.istore_n 1, 1) := by decide +kernel
theorem d_Trees_sortSymbols_2 : decode M_Trees_sortSymbols.2.1 2 = .ok (.iload_n 1, 1) := by decide +kernel
theorem d_Trees_sortSymbols_3 : decode M_Trees_sortSymbols.2.1 3 = .ok (.aload_n 0, 1) := by decide +kernel
theorem d_Trees_sortSymbols_4 : decode M_Trees_sortSymbols.2.1 4 = .ok (.getfield 24, 3) := by decide +kernel
theorem d_Trees_sortSymbols_7 : decode M_Trees_sortSymbols.2.1 7 = .ok (.if_icmp .ge 64, 3) := by decide +kernel
theorem d_Trees_sortSymbols_10 : decode M_Trees_sortSymbols.2.1 10 = .ok (.iload_n 1, 1) := by decide +kernel
theorem d_Trees_sortSymbols_11 : decode M_Trees_sortSymbols.2.1 11 = .ok (.istore_n 2, 1) := by decide +kernel
theorem d_Trees_sortSymbols_12 : decode M_Trees_sortSymbols.2.1 12 = .ok (.iload_n 2, 1) := by decide +kernel
theorem d_Trees_sortSymbols_13 : decode M_Trees_sortSymbols.2.1 13 = .ok (.ifCond .le 45, 3) := by decide +kernel
theorem d_Trees_sortSymbols_16 : decode M_Trees_sortSymbols.2.1 16 = .ok (.aload_n 0, 1) := by decide +kernel
theorem d_Trees_sortSymbols_17 : decode M_Trees_sortSymbols.2.1 17 = .ok (.getfield 11, 3) := by decide +kernel
theorem d_Trees_sortSymbols_20 : decode M_Trees_sortSymbols.2.1 20 = .ok (.aload_n 0, 1) := by decide +kernel
theorem d_Trees_sortSymbols_21 : decode M_Trees_sortSymbols.2.1 21 = .ok (.getfield 21, 3) := by decide +kernel
theorem d_Trees_sortSymbols_24 : decode M_Trees_sortSymbols.2.1 24 = .ok (.iload_n 2, 1) := by decide +kernel
theorem d_Trees_sortSymbols_25 : decode M_Trees_sortSymbols.2.1 25 = .ok (.iconst 1, 1) := by decide +kernel
theorem d_Trees_sortSymbols_26 : decode M_Trees_sortSymbols.2.1 26 = .ok (.isub, 1) := by decide +kernel
theorem d_Trees_sortSymbols_27 : decode M_Trees_sortSymbols.2.1 27 = .ok (.iaload, 1) := by decide +kernel
theorem d_Trees_sortSymbols_28 : decode M_Trees_sortSymbols.2.1 28 = .ok (.iaload, 1) := by decide +kernel
theorem d_Trees_sortSymbols_29 : decode M_Trees_sortSymbols.2.1 29 = .ok (.aload_n 0, 1) := by decide +kernel
theorem d_Trees_sortSymbols_30 : decode M_Trees_sortSymbols.2.1 30 = .ok (.getfield 11, 3) := by decide +kernel
theorem d_Trees_sortSymbols_33 : decode M_Trees_sortSymbols.2.1 33 = .ok (.iload_n 1, 1) := by decide +kernel
theorem d_Trees_sortSymbols_34 : decode M_Trees_sortSymbols.2.1 34 = .ok (.iaload, 1) := by decide +kernel
theorem d_Trees_sortSymbols_35 : decode M_Trees_sortSymbols.2.1 35 = .ok (.if_icmp .le 23, 3) := by decide +kernel
theorem d_Trees_sortSymbols_38 : decode M_Trees_sortSymbols.2.1 38 = .ok (.aload_n 0, 1) := by decide +kernel
theorem d_Trees_sortSymbols_39 : decode M_Trees_sortSymbols.2.1 39 = .ok (.getfield 21, 3) := by decide +kernel
theorem d_Trees_sortSymbols_42 : decode M_Trees_sortSymbols.2.1 42 = .ok (.iload_n 2, 1) := by decide +kernel
theorem d_Trees_sortSymbols_43 : decode M_Trees_sortSymbols.2.1 43 = .ok (.aload_n 0, 1) := by decide +kernel
theorem d_Trees_sortSymbols_44 : decode M_Trees_sortSymbols.2.1 44 = .ok (.getfield 21, 3) := by decide +kernel
theorem d_Trees_sortSymbols_47 : decode M_Trees_sortSymbols.2.1 47 = .ok (.iload_n 2, 1) := by decide +kernel
theorem d_Trees_sortSymbols_48 : decode M_Trees_sortSymbols.2.1 48 = .ok (.iconst 1, 1) := by decide +kernel
theorem d_Trees_sortSymbols_49 : decode M_Trees_sortSymbols.2.1 49 = .ok (.isub, 1) := by decide +kernel
theorem d_Trees_sortSymbols_50 : decode M_Trees_sortSymbols.2.1 50 = .ok (.iaload, 1) := by decide +kernel
theorem d_Trees_sortSymbols_51 : decode M_Trees_sortSymbols.2.1 51 = .ok (.iastore, 1) := by decide +kernel
theorem d_Trees_sortSymbols_52 : decode M_Trees_sortSymbols.2.1 52 = .ok (.iinc 2 (-1), 3) := by decide +kernel
theorem d_Trees_sortSymbols_55 : decode M_Trees_sortSymbols.2.1 55 = .ok (.goto (-43), 3) := by decide +kernel
theorem d_Trees_sortSymbols_58 : decode M_Trees_sortSymbols.2.1 58 = .ok (.aload_n 0, 1) := by decide +kernel
theorem d_Trees_sortSymbols_59 : decode M_Trees_sortSymbols.2.1 59 = .ok (.getfield 21, 3) := by decide +kernel
theorem d_Trees_sortSymbols_62 : decode M_Trees_sortSymbols.2.1 62 = .ok (.iload_n 2, 1) := by decide +kernel
theorem d_Trees_sortSymbols_63 : decode M_Trees_sortSymbols.2.1 63 = .ok (.iload_n 1, 1) := by decide +kernel
theorem d_Trees_sortSymbols_64 : decode M_Trees_sortSymbols.2.1 64 = .ok (.iastore, 1) := by decide +kernel
theorem d_Trees_sortSymbols_65 : decode M_Trees_sortSymbols.2.1 65 = .ok (.iinc 1 1, 3) := by decide +kernel
theorem d_Trees_sortSymbols_68 : decode M_Trees_sortSymbols.2.1 68 = .ok (.goto (-66), 3) := by decide +kernel
theorem d_Trees_sortSymbols_71 : decode M_Trees_sortSymbols.2.1 71 = .ok (.return_, 1) := by decide +kernel
theorem d_Trees_joinTrees_0 : decode M_Trees_joinTrees.2.1 0 = .ok (.aload_n 0, 1) := by decide +kernel
theorem d_Trees_joinTrees_1 : decode M_Trees_joinTrees.2.1 1 = .ok (.iconst 0, 1) := by decide +kernel
theorem d_Trees_joinTrees_2 : decode M_Trees_joinTrees.2.1 2 = .ok (.putfield 28, 3) := by decide +kernel
theorem d_Trees_joinTrees_5 : decode M_Trees_joinTrees.2.1 5 = .ok (.aload_n 0, 1) := by decide +kernel
theorem d_Trees_joinTrees_6 : decode M_Trees_joinTrees.2.1 6 = .ok (.aload_n 0, 1) := by decide +kernel
theorem d_Trees_joinTrees_7 : decode M_Trees_joinTrees.2.1 7 = .ok (.getfield 24, 3) := by decide +kernel
theorem d_Trees_joinTrees_10 : decode M_Trees_joinTrees.2.1 10 = .ok (.putfield 31, 3) := by decide +kernel
theorem d_Trees_joinTrees_13 : decode M_Trees_joinTrees.2.1 13 = .ok (.aload_n 0, 1) := by decide +kernel
theorem d_Trees_joinTrees_14 : decode M_Trees_joinTrees.2.1 14 = .ok (.getfield 24, 3) := by decide +kernel
theorem d_Trees_joinTrees_17 : decode M_Trees_joinTrees.2.1 17 = .ok (.istore_n 1, 1) := by decide +kernel
theorem d_Trees_joinTrees_18 : decode M_Trees_joinTrees.2.1 18 = .ok (.iload_n 1, 1) := by decide +kernel
theorem d_Trees_joinTrees_19 : decode M_Trees_joinTrees.2.1 19 = .ok (.iconst 2, 1) := by decide +kernel
theorem d_Trees_joinTrees_20 : decode M_Trees_joinTrees.2.1 20 = .ok (.aload_n 0, 1) := by decide +kernel
theorem d_Trees_joinTrees_21 : decode M_Trees_joinTrees.2.1 21 = .ok (.getfield 24, 3) := by decide +kernel
theorem d_Trees_joinTrees_24 : decode M_Trees_joinTrees.2.1 24 = .ok (.imul, 1) := by decide +kernel
theorem d_Trees_joinTrees_25 : decode M_Trees_joinTrees.2.1 25 = .ok (.iconst 1, 1) := by decide +kernel
theorem d_Trees_joinTrees_26 : decode M_Trees_joinTrees.2.1 26 = .ok (.isub, 1) := by decide +kernel
theorem d_Trees_joinTrees_27 : decode M_Trees_joinTrees.2.1 27 = .ok (.if_icmp .ge 54, 3) := by decide +kernel
theorem d_Trees_joinTrees_30 : decode M_Trees_joinTrees.2.1 30 = .ok (.aload_n 0, 1) := by decide +kernel
theorem d_Trees_joinTrees_31 : decode M_Trees_joinTrees.2.1 31 = .ok (.iload_n 1, 1) := by decide +kernel
theorem d_Trees_joinTrees_32 : decode M_Trees_joinTrees.2.1 32 = .ok (.invokevirtual 55, 3) := by decide +kernel
theorem d_Trees_joinTrees_35 : decode M_Trees_joinTrees.2.1 35 = .ok (.istore_n 2, 1) := by decide +kernel
theorem d_Trees_joinTrees_36 : decode M_Trees_joinTrees.2.1 36 = .ok (.aload_n 0, 1) := by decide +kernel
theorem d_Trees_joinTrees_37 : decode M_Trees_joinTrees.2.1 37 = .ok (.iload_n 1, 1) := by decide +kernel
theorem d_Trees_joinTrees_38 : decode M_Trees_joinTrees.2.1 38 = .ok (.invokevirtual 55, 3) := by decide +kernel
theorem d_Trees_joinTrees_41 : decode M_Trees_joinTrees.2.1 41 = .ok (.istore_n 3, 1) := by decide +kernel
theorem d_Trees_joinTrees_42 : decode M_Trees_joinTrees.2.1 42 = .ok (.aload_n 0, 1) := by decide +kernel
theorem d_Trees_joinTrees_43 : decode M_Trees_joinTrees.2.1 43 = .ok (.getfield 11, 3) := by decide +kernel
theorem d_Trees_joinTrees_46 : decode M_Trees_joinTrees.2.1 46 = .ok (.iload_n 1, 1) := by decide +kernel
theorem d_Trees_joinTrees_47 : decode M_Trees_joinTrees.2.1 47 = .ok (.aload_n 0, 1) := by decide +kernel
theorem d_Trees_joinTrees_48 : decode M_Trees_joinTrees.2.1 48 = .ok (.getfield 11, 3) := by decide +kernel
theorem d_Trees_joinTrees_51 : decode M_Trees_joinTrees.2.1 51 = .ok (.iload_n 2, 1) := by decide +kernel
theorem d_Trees_joinTrees_52 : decode M_Trees_joinTrees.2.1 52 = .ok (.iaload, 1) := by decide +kernel
theorem d_Trees_joinTrees_53 : decode M_Trees_joinTrees.2.1 53 = .ok (.aload_n 0, 1) := by decide +kernel
theorem d_Trees_joinTrees_54 : decode M_Trees_joinTrees.2.1 54 = .ok (.getfield 11, 3) := by decide +kernel
theorem d_Trees_joinTrees_57 : decode M_Trees_joinTrees.2.1 57 = .ok (.iload_n 3, 1) := by decide +kernel
theorem d_Trees_joinTrees_58 : decode M_Trees_joinTrees.2.1 58 = .ok (.iaload, 1) := by decide +kernel
theorem d_Trees_joinTrees_59 : decode M_Trees_joinTrees.2.1 59 = .ok (.iadd, 1) := by decide +kernel
theorem d_Trees_joinTrees_60 : decode M_Trees_joinTrees.2.1 60 = .ok (.iastore, 1) := by decide +kernel
theorem d_Trees_joinTrees_61 : decode M_Trees_joinTrees.2.1 61 = .ok (.aload_n 0, 1) := by decide +kernel
theorem d_Trees_joinTrees_62 : decode M_Trees_joinTrees.2.1 62 = .ok (.getfield 15, 3) := by decide +kernel
theorem d_Trees_joinTrees_65 : decode M_Trees_joinTrees.2.1 65 = .ok (.iload_n 2, 1) := by decide +kernel
theorem d_Trees_joinTrees_66 : decode M_Trees_joinTrees.2.1 66 = .ok (.iload_n 1, 1) := by decide +kernel
theorem d_Trees_joinTrees_67 : decode M_Trees_joinTrees.2.1 67 = .ok (.iastore, 1) := by decide +kernel
theorem d_Trees_joinTrees_68 : decode M_Trees_joinTrees.2.1 68 = .ok (.aload_n 0, 1) := by decide +kernel
theorem d_Trees_joinTrees_69 : decode M_Trees_joinTrees.2.1 69 = .ok (.getfield 15, 3) := by decide +kernel
theorem d_Trees_joinTrees_72 : decode M_Trees_joinTrees.2.1 72 = .ok (.iload_n 3, 1) := by decide +kernel
theorem d_Trees_joinTrees_73 : decode M_Trees_joinTrees.2.1 73 = .ok (.iload_n 1, 1) := by decide +kernel
theorem d_Trees_joinTrees_74 : decode M_Trees_joinTrees.2.1 74 = .ok (.iastore, 1) := by decide +kernel
theorem d_Trees_joinTrees_75 : decode M_Trees_joinTrees.2.1 75 = .ok (.iinc 1 1, 3) := by decide +kernel
theorem d_Trees_joinTrees_78 : decode M_Trees_joinTrees.2.1 78 = .ok (.goto (-60), 3) := by decide +kernel
theorem d_Trees_joinTrees_81 : decode M_Trees_joinTrees.2.1 81 = .ok (.return_, 1) := by decide +kernel
theorem d_Trees_takeFirst_0 : decode M_Trees_takeFirst.2.1 0 = .ok (.aload_n 0, 1) := by decide +kernel
theorem d_Trees_takeFirst_1 : decode M_Trees_takeFirst.2.1 1 = .ok (.getfield 28, 3) := by decide +kernel
theorem d_Trees_takeFirst_4 : decode M_Trees_takeFirst.2.1 4 = .ok (.aload_n 0, 1) := by decide +kernel
theorem d_Trees_takeFirst_5 : decode M_Trees_takeFirst.2.1 5 = .ok (.getfield 24, 3) := by decide +kernel
theorem d_Trees_takeFirst_8 : decode M_Trees_takeFirst.2.1 8 = .ok (.if_icmp .ge 7, 3) := by decide +kernel
theorem d_Trees_takeFirst_11 : decode M_Trees_takeFirst.2.1 11 = .ok (.iconst 1, 1) := by decide +kernel
theorem d_Trees_takeFirst_12 : decode M_Trees_takeFirst.2.1 12 = .ok (.goto 4, 3) := by decide +kernel
theorem d_Trees_takeFirst_15 : decode M_Trees_takeFirst.2.1 15 = .ok (.iconst 0, 1) := by decide +kernel
theorem d_Trees_takeFirst_16 : decode M_Trees_takeFirst.2.1 16 = .ok (.istore_n 2, 1) := by decide +kernel
theorem d_Trees_takeFirst_17 : decode M_Trees_takeFirst.2.1 17 = .ok (.aload_n 0, 1) := by decide +kernel
theorem d_Trees_takeFirst_18 : decode M_Trees_takeFirst.2.1 18 = .ok (.getfield 31, 3) := by decide +kernel
theorem d_Trees_takeFirst_21 : decode M_Trees_takeFirst.2.1 21 = .ok (.iload_n 1, 1) := by decide +kernel
theorem d_Trees_takeFirst_22 : decode M_Trees_takeFirst.2.1 22 = .ok (.if_icmp .ge 7, 3) := by decide +kernel
theorem d_Trees_takeFirst_25 : decode M_Trees_takeFirst.2.1 25 = .ok (.iconst 1, 1) := by decide +kernel
theorem d_Trees_takeFirst_26 : decode M_Trees_takeFirst.2.1 26 = .ok (.goto 4, 3) := by decide +kernel
theorem d_Trees_takeFirst_29 : decode M_Trees_takeFirst.2.1 29 = .ok (.iconst 0, 1) := by decide +kernel
theorem d_Trees_takeFirst_30 : decode M_Trees_takeFirst.2.1 30 = .ok (.istore_n 3, 1) := by decide +kernel
theorem d_Trees_takeFirst_31 : decode M_Trees_takeFirst.2.1 31 = .ok (.iload_n 2, 1) := by decide +kernel
theorem d_Trees_takeFirst_32 : decode M_Trees_takeFirst.2.1 32 = .ok (.ifCond .eq 55, 3) := by decide +kernel
theorem d_Trees_takeFirst_35 : decode M_Trees_takeFirst.2.1 35 = .ok (.iload_n 3, 1) := by decide +kernel
theorem d_Trees_takeFirst_36 : decode M_Trees_takeFirst.2.1 36 = .ok (.ifCond .eq 29, 3) := by decide +kernel
theorem d_Trees_takeFirst_39 : decode M_Trees_takeFirst.2.1 39 = .ok (.aload_n 0, 1) := by decide +kernel
theorem d_Trees_takeFirst_40 : decode M_Trees_takeFirst.2.1 40 = .ok (.getfield 11, 3) := by decide +kernel
theorem d_Trees_takeFirst_43 : decode M_Trees_takeFirst.2.1 43 = .ok (.aload_n 0, 1) := by decide +kernel
theorem d_Trees_takeFirst_44 : decode M_Trees_takeFirst.2.1 44 = .ok (.getfield 21, 3) := by decide +kernel
theorem d_Trees_takeFirst_47 : decode M_Trees_takeFirst.2.1 47 = .ok (.aload_n 0, 1) := by decide +kernel
theorem d_Trees_takeFirst_48 : decode M_Trees_takeFirst.2.1 48 = .ok (.getfield 28, 3) := by decide +kernel
theorem d_Trees_takeFirst_51 : decode M_Trees_takeFirst.2.1 51 = .ok (.iaload, 1) := by decide +kernel
theorem d_Trees_takeFirst_52 : decode M_Trees_takeFirst.2.1 52 = .ok (.iaload, 1) := by decide +kernel
theorem d_Trees_takeFirst_53 : decode M_Trees_takeFirst.2.1 53 = .ok (.aload_n 0, 1) := by decide +kernel
theorem d_Trees_takeFirst_54 : decode M_Trees_takeFirst.2.1 54 = .ok (.getfield 11, 3) := by decide +kernel
theorem d_Trees_takeFirst_57 : decode M_Trees_takeFirst.2.1 57 = .ok (.aload_n 0, 1) := by decide +kernel
theorem d_Trees_takeFirst_58 : decode M_Trees_takeFirst.2.1 58 = .ok (.getfield 31, 3) := by decide +kernel
theorem d_Trees_takeFirst_61 : decode M_Trees_takeFirst.2.1 61 = .ok (.iaload, 1) := by decide +kernel
theorem d_Trees_takeFirst_62 : decode M_Trees_takeFirst.2.1 62 = .ok (.if_icmp .gt 25, 3) := by decide +kernel
theorem d_Trees_takeFirst_65 : decode M_Trees_takeFirst.2.1 65 = .ok (.aload_n 0, 1) := by decide +kernel
theorem d_Trees_takeFirst_66 : decode M_Trees_takeFirst.2.1 66 = .ok (.dup, 1) := by decide +kernel
theorem d_Trees_takeFirst_67 : decode M_Trees_takeFirst.2.1 67 = .ok (.getfield 28, 3) := by decide +kernel
theorem d_Trees_takeFirst_70 : decode M_Trees_takeFirst.2.1 70 = .ok (.iconst 1, 1) := by decide +kernel
theorem d_Trees_takeFirst_71 : decode M_Trees_takeFirst.2.1 71 = .ok (.iadd, 1) := by decide +kernel
theorem d_Trees_takeFirst_72 : decode M_Trees_takeFirst.2.1 72 = .ok (.putfield 28, 3) := by decide +kernel
theorem d_Trees_takeFirst_75 : decode M_Trees_takeFirst.2.1 75 = .ok (.aload_n 0, 1) := by decide +kernel
theorem d_Trees_takeFirst_76 : decode M_Trees_takeFirst.2.1 76 = .ok (.getfield 21, 3) := by decide +kernel
theorem d_Trees_takeFirst_79 : decode M_Trees_takeFirst.2.1 79 = .ok (.aload_n 0, 1) := by decide +kernel
theorem d_Trees_takeFirst_80 : decode M_Trees_takeFirst.2.1 80 = .ok (.getfield 28, 3) := by decide +kernel
theorem d_Trees_takeFirst_83 : decode M_Trees_takeFirst.2.1 83 = .ok (.iconst 1, 1) := by decide +kernel
theorem d_Trees_takeFirst_84 : decode M_Trees_takeFirst.2.1 84 = .ok (.isub, 1) := by decide +kernel
theorem d_Trees_takeFirst_85 : decode M_Trees_takeFirst.2.1 85 = .ok (.iaload, 1) := by decide +kernel
theorem d_Trees_takeFirst_86 : decode M_Trees_takeFirst.2.1 86 = .ok (.ireturn, 1) := by decide +kernel
theorem d_Trees_takeFirst_87 : decode M_Trees_takeFirst.2.1 87 = .ok (.iload_n 3, 1) := by decide +kernel
theorem d_Trees_takeFirst_88 : decode M_Trees_takeFirst.2.1 88 = .ok (.ifCond .ne 5, 3) := by decide +kernel
theorem d_Trees_takeFirst_91 : decode M_Trees_takeFirst.2.1 91 = .ok (.iconst 0, 1) := by decide +kernel
theorem d_Trees_takeFirst_92 : decode M_Trees_takeFirst.2.1 92 = .ok (.ireturn, 1) := by decide +kernel
theorem d_Trees_takeFirst_93 : decode M_Trees_takeFirst.2.1 93 = .ok (.aload_n 0, 1) := by decide +kernel
theorem d_Trees_takeFirst_94 : decode M_Trees_takeFirst.2.1 94 = .ok (.dup, 1) := by decide +kernel
theorem d_Trees_takeFirst_95 : decode M_Trees_takeFirst.2.1 95 = .ok (.getfield 31, 3) := by decide +kernel
theorem d_Trees_takeFirst_98 : decode M_Trees_takeFirst.2.1 98 = .ok (.iconst 1, 1) := by decide +kernel
theorem d_Trees_takeFirst_99 : decode M_Trees_takeFirst.2.1 99 = .ok (.iadd, 1) := by decide +kernel
theorem d_Trees_takeFirst_100 : decode M_Trees_takeFirst.2.1 100 = .ok (.putfield 31, 3) := by decide +kernel
theorem d_Trees_takeFirst_103 : decode M_Trees_takeFirst.2.1 103 = .ok (.aload_n 0, 1) := by decide +kernel
theorem d_Trees_takeFirst_104 : decode M_Trees_takeFirst.2.1 104 = .ok (.getfield 31, 3) := by decide +kernel
theorem d_Trees_takeFirst_107 : decode M_Trees_takeFirst.2.1 107 = .ok (.iconst 1, 1) := by decide +kernel
theorem d_Trees_takeFirst_108 : decode M_Trees_takeFirst.2.1 108 = .ok (.isub, 1) := by decide +kernel
theorem d_Trees_takeFirst_109 : decode M_Trees_takeFirst.2.1 109 = .ok (.ireturn, 1) := by decide +kernel
theorem d_Trees_measureDepths_0 : decode M_Trees_measureDepths.2.1 0 = .ok (.iconst 2, 1) := by decide +kernel
theorem d_Trees_measureDepths_1 : decode M_Trees_measureDepths.2.1 1 = .ok (.aload_n 0, 1) := by decide +kernel
theorem d_Trees_measureDepths_2 : decode M_Trees_measureDepths.2.1 2 = .ok (.getfield 24, 3) := by decide +kernel
theorem d_Trees_measureDepths_5 : decode M_Trees_measureDepths.2.1 5 = .ok (.imul, 1) := by decide +kernel
theorem d_Trees_measureDepths_6 : decode M_Trees_measureDepths.2.1 6 = .ok (.iconst 2, 1) := by decide +kernel
theorem d_Trees_measureDepths_7 : decode M_Trees_measureDepths.2.1 7 = .ok (.isub, 1) := by decide +kernel
theorem d_Trees_measureDepths_8 : decode M_Trees_measureDepths.2.1 8 = .ok (.istore_n 1, 1) := by decide +kernel
theorem d_Trees_measureDepths_9 : decode M_Trees_measureDepths.2.1 9 = .ok (.aload_n 0, 1) := by decide +kernel
theorem d_Trees_measureDepths_10 : decode M_Trees_measureDepths.2.1 10 = .ok (.getfield 18, 3) := by decide +kernel
theorem d_Trees_measureDepths_13 : decode M_Trees_measureDepths.2.1 13 = .ok (.iload_n 1, 1) := by decide +kernel
theorem d_Trees_measureDepths_14 : decode M_Trees_measureDepths.2.1 14 = .ok (.iconst 0, 1) := by decide +kernel
theorem d_Trees_measureDepths_15 : decode M_Trees_measureDepths.2.1 15 = .ok (.iastore, 1) := by decide +kernel
theorem d_Trees_measureDepths_16 : decode M_Trees_measureDepths.2.1 16 = .ok (.iload_n 1, 1) := by decide +kernel
theorem d_Trees_measureDepths_17 : decode M_Trees_measureDepths.2.1 17 = .ok (.iconst 1, 1) := by decide +kernel
theorem d_Trees_measureDepths_18 : decode M_Trees_measureDepths.2.1 18 = .ok (.isub, 1) := by decide +kernel
theorem d_Trees_measureDepths_19 : decode M_Trees_measureDepths.2.1 19 = .ok (.istore_n 2, 1) := by decide +kernel
theorem d_Trees_measureDepths_20 : decode M_Trees_measureDepths.2.1 20 = .ok (.iload_n 2, 1) := by decide +kernel
theorem d_Trees_measureDepths_21 : decode M_Trees_measureDepths.2.1 21 = .ok (.ifCond .lt 28, 3) := by decide +kernel
theorem d_Trees_measureDepths_24 : decode M_Trees_measureDepths.2.1 24 = .ok (.aload_n 0, 1) := by decide +kernel
theorem d_Trees_measureDepths_25 : decode M_Trees_measureDepths.2.1 25 = .ok (.getfield 18, 3) := by decide +kernel
theorem d_Trees_measureDepths_28 : decode M_Trees_measureDepths.2.1 28 = .ok (.iload_n 2, 1) := by decide +kernel
theorem d_Trees_measureDepths_29 : decode M_Trees_measureDepths.2.1 29 = .ok (.aload_n 0, 1) := by decide +kernel
theorem d_Trees_measureDepths_30 : decode M_Trees_measureDepths.2.1 30 = .ok (.getfield 18, 3) := by decide +kernel
theorem d_Trees_measureDepths_33 : decode M_Trees_measureDepths.2.1 33 = .ok (.aload_n 0, 1) := by decide +kernel
theorem d_Trees_measureDepths_34 : decode M_Trees_measureDepths.2.1 34 = .ok (.getfield 15, 3) := by decide +kernel
theorem d_Trees_measureDepths_37 : decode M_Trees_measureDepths.2.1 37 = .ok (.iload_n 2, 1) := by decide +kernel
theorem d_Trees_measureDepths_38 : decode M_Trees_measureDepths.2.1 38 = .ok (.iaload, 1) := by decide +kernel
theorem d_Trees_measureDepths_39 : decode M_Trees_measureDepths.2.1 39 = .ok (.iaload, 1) := by decide +kernel
theorem d_Trees_measureDepths_40 : decode M_Trees_measureDepths.2.1 40 = .ok (.iconst 1, 1) := by decide +kernel
theorem d_Trees_measureDepths_41 : decode M_Trees_measureDepths.2.1 41 = .ok (.iadd, 1) := by decide +kernel
theorem d_Trees_measureDepths_42 : decode M_Trees_measureDepths.2.1 42 = .ok (.iastore, 1) := by decide +kernel
theorem d_Trees_measureDepths_43 : decode M_Trees_measureDepths.2.1 43 = .ok (.iinc 2 (-1), 3) := by decide +kernel
theorem d_Trees_measureDepths_46 : decode M_Trees_measureDepths.2.1 46 = .ok (.goto (-26), 3) := by decide +kernel
theorem d_Trees_measureDepths_49 : decode M_Trees_measureDepths.2.1 49 = .ok (.return_, 1) := by decide +kernel
theorem d_Law_feed_0 : decode M_Law_feed.2.1 0 = .ok (.aload 4, 2) := by decide +kernel
theorem d_Law_feed_2 : decode M_Law_feed.2.1 2 = .ok (.iconst 0, 1) := by decide +kernel
theorem d_Law_feed_3 : decode M_Law_feed.2.1 3 = .ok (.aload_n 0, 1) := by decide +kernel
theorem d_Law_feed_4 : decode M_Law_feed.2.1 4 = .ok (.lload_n 1, 1) := by decide +kernel
theorem d_Law_feed_5 : decode M_Law_feed.2.1 5 = .ok (.iload_n 3, 1) := by decide +kernel
theorem d_Law_feed_6 : decode M_Law_feed.2.1 6 = .ok (.invokevirtual 7, 3) := by decide +kernel
theorem d_Law_feed_9 : decode M_Law_feed.2.1 9 = .ok (.i2l, 1) := by decide +kernel
theorem d_Law_feed_10 : decode M_Law_feed.2.1 10 = .ok (.lastore, 1) := by decide +kernel
theorem d_Law_feed_11 : decode M_Law_feed.2.1 11 = .ok (.goto 11, 3) := by decide +kernel
theorem d_Law_feed_14 : decode M_Law_feed.2.1 14 = .ok (.astore 5, 2) := by decide +kernel
theorem d_Law_feed_16 : decode M_Law_feed.2.1 16 = .ok (.iconst 1, 1) := by decide +kernel
theorem d_Law_feed_17 : decode M_Law_feed.2.1 17 = .ok (.ireturn, 1) := by decide +kernel
theorem d_Law_feed_18 : decode M_Law_feed.2.1 18 = .ok (.astore 5, 2) := by decide +kernel
theorem d_Law_feed_20 : decode M_Law_feed.2.1 20 = .ok (.iconst 2, 1) := by decide +kernel
theorem d_Law_feed_21 : decode M_Law_feed.2.1 21 = .ok (.ireturn, 1) := by decide +kernel
theorem d_Law_feed_22 : decode M_Law_feed.2.1 22 = .ok (.iconst 0, 1) := by decide +kernel
theorem d_Law_feed_23 : decode M_Law_feed.2.1 23 = .ok (.ireturn, 1) := by decide +kernel
theorem d_Law_keep_0 : decode M_Law_keep.2.1 0 = .ok (.aload_n 0, 1) := by decide +kernel
theorem d_Law_keep_1 : decode M_Law_keep.2.1 1 = .ok (.iload_n 1, 1) := by decide +kernel
theorem d_Law_keep_2 : decode M_Law_keep.2.1 2 = .ok (.invokevirtual 17, 3) := by decide +kernel
theorem d_Law_keep_5 : decode M_Law_keep.2.1 5 = .ok (.goto 6, 3) := by decide +kernel
theorem d_Law_keep_8 : decode M_Law_keep.2.1 8 = .ok (.astore_n 2, 1) := by decide +kernel
theorem d_Law_keep_9 : decode M_Law_keep.2.1 9 = .ok (.iconst 1, 1) := by decide +kernel
theorem d_Law_keep_10 : decode M_Law_keep.2.1 10 = .ok (.ireturn, 1) := by decide +kernel
theorem d_Law_keep_11 : decode M_Law_keep.2.1 11 = .ok (.iconst 0, 1) := by decide +kernel
theorem d_Law_keep_12 : decode M_Law_keep.2.1 12 = .ok (.ireturn, 1) := by decide +kernel
theorem d_Law_damage_0 : decode M_Law_damage.2.1 0 = .ok (.aload_n 0, 1) := by decide +kernel
theorem d_Law_damage_1 : decode M_Law_damage.2.1 1 = .ok (.iload_n 1, 1) := by decide +kernel
theorem d_Law_damage_2 : decode M_Law_damage.2.1 2 = .ok (.invokevirtual 21, 3) := by decide +kernel
theorem d_Law_damage_5 : decode M_Law_damage.2.1 5 = .ok (.goto 6, 3) := by decide +kernel
theorem d_Law_damage_8 : decode M_Law_damage.2.1 8 = .ok (.astore_n 2, 1) := by decide +kernel
theorem d_Law_damage_9 : decode M_Law_damage.2.1 9 = .ok (.iconst 1, 1) := by decide +kernel
theorem d_Law_damage_10 : decode M_Law_damage.2.1 10 = .ok (.ireturn, 1) := by decide +kernel
theorem d_Law_damage_11 : decode M_Law_damage.2.1 11 = .ok (.iconst 0, 1) := by decide +kernel
theorem d_Law_damage_12 : decode M_Law_damage.2.1 12 = .ok (.ireturn, 1) := by decide +kernel
theorem d_Law_append_0 : decode M_Law_append.2.1 0 = .ok (.aload_n 1, 1) := by decide +kernel
theorem d_Law_append_1 : decode M_Law_append.2.1 1 = .ok (.iconst 0, 1) := by decide +kernel
theorem d_Law_append_2 : decode M_Law_append.2.1 2 = .ok (.aload_n 0, 1) := by decide +kernel
theorem d_Law_append_3 : decode M_Law_append.2.1 3 = .ok (.invokevirtual 26, 3) := by decide +kernel
theorem d_Law_append_6 : decode M_Law_append.2.1 6 = .ok (.i2l, 1) := by decide +kernel
theorem d_Law_append_7 : decode M_Law_append.2.1 7 = .ok (.lastore, 1) := by decide +kernel
theorem d_Law_append_8 : decode M_Law_append.2.1 8 = .ok (.goto 6, 3) := by decide +kernel
theorem d_Law_append_11 : decode M_Law_append.2.1 11 = .ok (.astore_n 2, 1) := by decide +kernel
theorem d_Law_append_12 : decode M_Law_append.2.1 12 = .ok (.iconst 1, 1) := by decide +kernel
theorem d_Law_append_13 : decode M_Law_append.2.1 13 = .ok (.ireturn, 1) := by decide +kernel
theorem d_Law_append_14 : decode M_Law_append.2.1 14 = .ok (.iconst 0, 1) := by decide +kernel
theorem d_Law_append_15 : decode M_Law_append.2.1 15 = .ok (.ireturn, 1) := by decide +kernel
theorem d_Law_pack_0 : decode M_Law_pack.2.1 0 = .ok (.aload_n 2, 1) := by decide +kernel
theorem d_Law_pack_1 : decode M_Law_pack.2.1 1 = .ok (.iconst 0, 1) := by decide +kernel
theorem d_Law_pack_2 : decode M_Law_pack.2.1 2 = .ok (.aload_n 0, 1) := by decide +kernel
theorem d_Law_pack_3 : decode M_Law_pack.2.1 3 = .ok (.iload_n 1, 1) := by decide +kernel
theorem d_Law_pack_4 : decode M_Law_pack.2.1 4 = .ok (.invokevirtual 30, 3) := by decide +kernel
theorem d_Law_pack_7 : decode M_Law_pack.2.1 7 = .ok (.i2l, 1) := by decide +kernel
theorem d_Law_pack_8 : decode M_Law_pack.2.1 8 = .ok (.lastore, 1) := by decide +kernel
theorem d_Law_pack_9 : decode M_Law_pack.2.1 9 = .ok (.goto 6, 3) := by decide +kernel
theorem d_Law_pack_12 : decode M_Law_pack.2.1 12 = .ok (.astore_n 3, 1) := by decide +kernel
theorem d_Law_pack_13 : decode M_Law_pack.2.1 13 = .ok (.iconst 1, 1) := by decide +kernel
theorem d_Law_pack_14 : decode M_Law_pack.2.1 14 = .ok (.ireturn, 1) := by decide +kernel
theorem d_Law_pack_15 : decode M_Law_pack.2.1 15 = .ok (.iconst 0, 1) := by decide +kernel
theorem d_Law_pack_16 : decode M_Law_pack.2.1 16 = .ok (.ireturn, 1) := by decide +kernel
theorem d_Law_unpack_0 : decode M_Law_unpack.2.1 0 = .ok (.aload_n 1, 1) := by decide +kernel
theorem d_Law_unpack_1 : decode M_Law_unpack.2.1 1 = .ok (.iconst 0, 1) := by decide +kernel
theorem d_Law_unpack_2 : decode M_Law_unpack.2.1 2 = .ok (.aload_n 0, 1) := by decide +kernel
theorem d_Law_unpack_3 : decode M_Law_unpack.2.1 3 = .ok (.invokevirtual 34, 3) := by decide +kernel
theorem d_Law_unpack_6 : decode M_Law_unpack.2.1 6 = .ok (.i2l, 1) := by decide +kernel
theorem d_Law_unpack_7 : decode M_Law_unpack.2.1 7 = .ok (.lastore, 1) := by decide +kernel
theorem d_Law_unpack_8 : decode M_Law_unpack.2.1 8 = .ok (.goto 6, 3) := by decide +kernel
theorem d_Law_unpack_11 : decode M_Law_unpack.2.1 11 = .ok (.astore_n 2, 1) := by decide +kernel
theorem d_Law_unpack_12 : decode M_Law_unpack.2.1 12 = .ok (.iconst 1, 1) := by decide +kernel
theorem d_Law_unpack_13 : decode M_Law_unpack.2.1 13 = .ok (.ireturn, 1) := by decide +kernel
theorem d_Law_unpack_14 : decode M_Law_unpack.2.1 14 = .ok (.iconst 0, 1) := by decide +kernel
theorem d_Law_unpack_15 : decode M_Law_unpack.2.1 15 = .ok (.ireturn, 1) := by decide +kernel
theorem d_Law_out_0 : decode M_Law_out.2.1 0 = .ok (.aload_n 2, 1) := by decide +kernel
theorem d_Law_out_1 : decode M_Law_out.2.1 1 = .ok (.iconst 0, 1) := by decide +kernel
theorem d_Law_out_2 : decode M_Law_out.2.1 2 = .ok (.aload_n 0, 1) := by decide +kernel
theorem d_Law_out_3 : decode M_Law_out.2.1 3 = .ok (.iload_n 1, 1) := by decide +kernel
theorem d_Law_out_4 : decode M_Law_out.2.1 4 = .ok (.invokevirtual 39, 3) := by decide +kernel
theorem d_Law_out_7 : decode M_Law_out.2.1 7 = .ok (.i2l, 1) := by decide +kernel
theorem d_Law_out_8 : decode M_Law_out.2.1 8 = .ok (.lastore, 1) := by decide +kernel
theorem d_Law_out_9 : decode M_Law_out.2.1 9 = .ok (.goto 6, 3) := by decide +kernel
theorem d_Law_out_12 : decode M_Law_out.2.1 12 = .ok (.astore_n 3, 1) := by decide +kernel
theorem d_Law_out_13 : decode M_Law_out.2.1 13 = .ok (.iconst 1, 1) := by decide +kernel
theorem d_Law_out_14 : decode M_Law_out.2.1 14 = .ok (.ireturn, 1) := by decide +kernel
theorem d_Law_out_15 : decode M_Law_out.2.1 15 = .ok (.iconst 0, 1) := by decide +kernel
theorem d_Law_out_16 : decode M_Law_out.2.1 16 = .ok (.ireturn, 1) := by decide +kernel
theorem d_Law_law_0 : decode M_Law_law.2.1 0 = .ok (.new 8, 3) := by decide +kernel
theorem d_Law_law_3 : decode M_Law_law.2.1 3 = .ok (.dup, 1) := by decide +kernel
theorem d_Law_law_4 : decode M_Law_law.2.1 4 = .ok (.invokespecial 42, 3) := by decide +kernel
theorem d_Law_law_7 : decode M_Law_law.2.1 7 = .ok (.astore_n 1, 1) := by decide +kernel
theorem d_Law_law_8 : decode M_Law_law.2.1 8 = .ok (.new 43, 3) := by decide +kernel
theorem d_Law_law_11 : decode M_Law_law.2.1 11 = .ok (.dup, 1) := by decide +kernel
theorem d_Law_law_12 : decode M_Law_law.2.1 12 = .ok (.invokespecial 45, 3) := by decide +kernel
theorem d_Law_law_15 : decode M_Law_law.2.1 15 = .ok (.astore_n 2, 1) := by decide +kernel
theorem d_Law_law_16 : decode M_Law_law.2.1 16 = .ok (.iconst 1, 1) := by decide +kernel
theorem d_Law_law_17 : decode M_Law_law.2.1 17 = .ok (.newarray .long, 2) := by decide +kernel
theorem d_Law_law_19 : decode M_Law_law.2.1 19 = .ok (.astore_n 3, 1) := by decide +kernel
theorem d_Law_law_20 : decode M_Law_law.2.1 20 = .ok (.iconst 0, 1) := by decide +kernel
theorem d_Law_law_21 : decode M_Law_law.2.1 21 = .ok (.istore 4, 2) := by decide +kernel
theorem d_Law_law_23 : decode M_Law_law.2.1 23 = .ok (.iload 4, 2) := by decide +kernel
theorem d_Law_law_25 : decode M_Law_law.2.1 25 = .ok (.aload_n 0, 1) := by decide +kernel
theorem d_Law_law_26 : decode M_Law_law.2.1 26 = .ok (.arraylength, 1) := by decide +kernel
theorem d_Law_law_27 : decode M_Law_law.2.1 27 = .ok (.iconst 4, 1) := by decide +kernel
theorem d_Law_law_28 : decode M_Law_law.2.1 28 = .ok (.isub, 1) := by decide +kernel
theorem d_Law_law_29 : decode M_Law_law.2.1 29 = .ok (.if_icmp .gt 671, 3) := by decide +kernel
theorem d_Law_law_32 : decode M_Law_law.2.1 32 = .ok (.aload_n 0, 1) := by decide +kernel
theorem d_Law_law_33 : decode M_Law_law.2.1 33 = .ok (.iload 4, 2) := by decide +kernel
theorem d_Law_law_35 : decode M_Law_law.2.1 35 = .ok (.iaload, 1) := by decide +kernel
theorem d_Law_law_36 : decode M_Law_law.2.1 36 = .ok (.bipush 31, 2) := by decide +kernel
theorem d_Law_law_38 : decode M_Law_law.2.1 38 = .ok (.iand, 1) := by decide +kernel
theorem d_Law_law_39 : decode M_Law_law.2.1 39 = .ok (.tableswitch 655 0 16 #[81, 181, 217, 253, 297, 353, 397, 410, 423, 436, 449, 505, 518, 543, 568, 593, 630], 81) := by decide +kernel
theorem d_Law_law_120 : decode M_Law_law.2.1 120 = .ok (.aload_n 1, 1) := by decide +kernel
theorem d_Law_law_121 : decode M_Law_law.2.1 121 = .ok (.aload_n 0, 1) := by decide +kernel
theorem d_Law_law_122 : decode M_Law_law.2.1 122 = .ok (.iload 4, 2) := by decide +kernel
theorem d_Law_law_124 : decode M_Law_law.2.1 124 = .ok (.iconst 1, 1) := by decide +kernel
theorem d_Law_law_125 : decode M_Law_law.2.1 125 = .ok (.iadd, 1) := by decide +kernel
theorem d_Law_law_126 : decode M_Law_law.2.1 126 = .ok (.iaload, 1) := by decide +kernel
theorem d_Law_law_127 : decode M_Law_law.2.1 127 = .ok (.i2l, 1) := by decide +kernel
theorem d_Law_law_128 : decode M_Law_law.2.1 128 = .ok (.bipush 32, 2) := by decide +kernel
theorem d_Law_law_130 : decode M_Law_law.2.1 130 = .ok (.lshl, 1) := by decide +kernel
theorem d_Law_law_131 : decode M_Law_law.2.1 131 = .ok (.aload_n 0, 1) := by decide +kernel
theorem d_Law_law_132 : decode M_Law_law.2.1 132 = .ok (.iload 4, 2) := by decide +kernel
theorem d_Law_law_134 : decode M_Law_law.2.1 134 = .ok (.iconst 2, 1) := by decide +kernel
theorem d_Law_law_135 : decode M_Law_law.2.1 135 = .ok (.iadd, 1) := by decide +kernel
theorem d_Law_law_136 : decode M_Law_law.2.1 136 = .ok (.iaload, 1) := by decide +kernel
theorem d_Law_law_137 : decode M_Law_law.2.1 137 = .ok (.i2l, 1) := by decide +kernel
theorem d_Law_law_138 : decode M_Law_law.2.1 138 = .ok (.ldc2_w 46, 3) := by decide +kernel
theorem d_Law_law_141 : decode M_Law_law.2.1 141 = .ok (.land, 1) := by decide +kernel
theorem d_Law_law_142 : decode M_Law_law.2.1 142 = .ok (.lor, 1) := by decide +kernel
theorem d_Law_law_143 : decode M_Law_law.2.1 143 = .ok (.aload_n 0, 1) := by decide +kernel
theorem d_Law_law_144 : decode M_Law_law.2.1 144 = .ok (.iload 4, 2) := by decide +kernel
theorem d_Law_law_146 : decode M_Law_law.2.1 146 = .ok (.iconst 3, 1) := by decide +kernel
theorem d_Law_law_147 : decode M_Law_law.2.1 147 = .ok (.iadd, 1) := by decide +kernel
theorem d_Law_law_148 : decode M_Law_law.2.1 148 = .ok (.iaload, 1) := by decide +kernel
theorem d_Law_law_149 : decode M_Law_law.2.1 149 = .ok (.aload_n 3, 1) := by decide +kernel
theorem d_Law_law_150 : decode M_Law_law.2.1 150 = .ok (.invokestatic 48, 3) := by decide +kernel
theorem d_Law_law_153 : decode M_Law_law.2.1 153 = .ok (.istore 5, 2) := by decide +kernel
theorem d_Law_law_155 : decode M_Law_law.2.1 155 = .ok (.aload_n 2, 1) := by decide +kernel
theorem d_Law_law_156 : decode M_Law_law.2.1 156 = .ok (.aload_n 0, 1) := by decide +kernel
theorem d_Law_law_157 : decode M_Law_law.2.1 157 = .ok (.iload 4, 2) := by decide +kernel
theorem d_Law_law_159 : decode M_Law_law.2.1 159 = .ok (.iconst 1, 1) := by decide +kernel
theorem d_Law_law_160 : decode M_Law_law.2.1 160 = .ok (.iadd, 1) := by decide +kernel
theorem d_Law_law_161 : decode M_Law_law.2.1 161 = .ok (.iaload, 1) := by decide +kernel
theorem d_Law_law_162 : decode M_Law_law.2.1 162 = .ok (.i2l, 1) := by decide +kernel
theorem d_Law_law_163 : decode M_Law_law.2.1 163 = .ok (.bipush 32, 2) := by decide +kernel
theorem d_Law_law_165 : decode M_Law_law.2.1 165 = .ok (.lshl, 1) := by decide +kernel
theorem d_Law_law_166 : decode M_Law_law.2.1 166 = .ok (.aload_n 0, 1) := by decide +kernel
theorem d_Law_law_167 : decode M_Law_law.2.1 167 = .ok (.iload 4, 2) := by decide +kernel
theorem d_Law_law_169 : decode M_Law_law.2.1 169 = .ok (.iconst 2, 1) := by decide +kernel
theorem d_Law_law_170 : decode M_Law_law.2.1 170 = .ok (.iadd, 1) := by decide +kernel
theorem d_Law_law_171 : decode M_Law_law.2.1 171 = .ok (.iaload, 1) := by decide +kernel
theorem d_Law_law_172 : decode M_Law_law.2.1 172 = .ok (.i2l, 1) := by decide +kernel
theorem d_Law_law_173 : decode M_Law_law.2.1 173 = .ok (.ldc2_w 46, 3) := by decide +kernel
theorem d_Law_law_176 : decode M_Law_law.2.1 176 = .ok (.land, 1) := by decide +kernel
theorem d_Law_law_177 : decode M_Law_law.2.1 177 = .ok (.lor, 1) := by decide +kernel
theorem d_Law_law_178 : decode M_Law_law.2.1 178 = .ok (.aload_n 0, 1) := by decide +kernel
theorem d_Law_law_179 : decode M_Law_law.2.1 179 = .ok (.iload 4, 2) := by decide +kernel
theorem d_Law_law_181 : decode M_Law_law.2.1 181 = .ok (.iconst 3, 1) := by decide +kernel
theorem d_Law_law_182 : decode M_Law_law.2.1 182 = .ok (.iadd, 1) := by decide +kernel
theorem d_Law_law_183 : decode M_Law_law.2.1 183 = .ok (.iaload, 1) := by decide +kernel
theorem d_Law_law_184 : decode M_Law_law.2.1 184 = .ok (.invokevirtual 53, 3) := by decide +kernel
theorem d_Law_law_187 : decode M_Law_law.2.1 187 = .ok (.istore 6, 2) := by decide +kernel
theorem d_Law_law_189 : decode M_Law_law.2.1 189 = .ok (.aload_n 2, 1) := by decide +kernel
theorem d_Law_law_190 : decode M_Law_law.2.1 190 = .ok (.invokevirtual 54, 3) := by decide +kernel
theorem d_Law_law_193 : decode M_Law_law.2.1 193 = .ok (.iload 5, 2) := by decide +kernel
theorem d_Law_law_195 : decode M_Law_law.2.1 195 = .ok (.if_icmp .eq 5, 3) := by decide +kernel
theorem d_Law_law_198 : decode M_Law_law.2.1 198 = .ok (.iconst 0, 1) := by decide +kernel
theorem d_Law_law_199 : decode M_Law_law.2.1 199 = .ok (.ireturn, 1) := by decide +kernel
theorem d_Law_law_200 : decode M_Law_law.2.1 200 = .ok (.iload 5, 2) := by decide +kernel
theorem d_Law_law_202 : decode M_Law_law.2.1 202 = .ok (.ifCond .ne 15, 3) := by decide +kernel
theorem d_Law_law_205 : decode M_Law_law.2.1 205 = .ok (.aload_n 3, 1) := by decide +kernel
theorem d_Law_law_206 : decode M_Law_law.2.1 206 = .ok (.iconst 0, 1) := by decide +kernel
theorem d_Law_law_207 : decode M_Law_law.2.1 207 = .ok (.laload, 1) := by decide +kernel
theorem d_Law_law_208 : decode M_Law_law.2.1 208 = .ok (.iload 6, 2) := by decide +kernel
theorem d_Law_law_210 : decode M_Law_law.2.1 210 = .ok (.i2l, 1) := by decide +kernel
theorem d_Law_law_211 : decode M_Law_law.2.1 211 = .ok (.lcmp, 1) := by decide +kernel
theorem d_Law_law_212 : decode M_Law_law.2.1 212 = .ok (.ifCond .eq 5, 3) := by decide +kernel
theorem d_Law_law_215 : decode M_Law_law.2.1 215 = .ok (.iconst 0, 1) := by decide +kernel
theorem d_Law_law_216 : decode M_Law_law.2.1 216 = .ok (.ireturn, 1) := by decide +kernel
theorem d_Law_law_217 : decode M_Law_law.2.1 217 = .ok (.goto 477, 3) := by decide +kernel
theorem d_Law_law_220 : decode M_Law_law.2.1 220 = .ok (.aload_n 1, 1) := by decide +kernel
theorem d_Law_law_221 : decode M_Law_law.2.1 221 = .ok (.aload_n 0, 1) := by decide +kernel
theorem d_Law_law_222 : decode M_Law_law.2.1 222 = .ok (.iload 4, 2) := by decide +kernel
theorem d_Law_law_224 : decode M_Law_law.2.1 224 = .ok (.iconst 1, 1) := by decide +kernel
theorem d_Law_law_225 : decode M_Law_law.2.1 225 = .ok (.iadd, 1) := by decide +kernel
theorem d_Law_law_226 : decode M_Law_law.2.1 226 = .ok (.iaload, 1) := by decide +kernel
theorem d_Law_law_227 : decode M_Law_law.2.1 227 = .ok (.invokestatic 57, 3) := by decide +kernel
theorem d_Law_law_230 : decode M_Law_law.2.1 230 = .ok (.istore 5, 2) := by decide +kernel
theorem d_Law_law_232 : decode M_Law_law.2.1 232 = .ok (.aload_n 2, 1) := by decide +kernel
theorem d_Law_law_233 : decode M_Law_law.2.1 233 = .ok (.aload_n 0, 1) := by decide +kernel
theorem d_Law_law_234 : decode M_Law_law.2.1 234 = .ok (.iload 4, 2) := by decide +kernel
theorem d_Law_law_236 : decode M_Law_law.2.1 236 = .ok (.iconst 1, 1) := by decide +kernel
theorem d_Law_law_237 : decode M_Law_law.2.1 237 = .ok (.iadd, 1) := by decide +kernel
theorem d_Law_law_238 : decode M_Law_law.2.1 238 = .ok (.iaload, 1) := by decide +kernel
theorem d_Law_law_239 : decode M_Law_law.2.1 239 = .ok (.invokevirtual 60, 3) := by decide +kernel
theorem d_Law_law_242 : decode M_Law_law.2.1 242 = .ok (.aload_n 2, 1) := by decide +kernel
theorem d_Law_law_243 : decode M_Law_law.2.1 243 = .ok (.invokevirtual 54, 3) := by decide +kernel
theorem d_Law_law_246 : decode M_Law_law.2.1 246 = .ok (.iload 5, 2) := by decide +kernel
theorem d_Law_law_248 : decode M_Law_law.2.1 248 = .ok (.if_icmp .eq 5, 3) := by decide +kernel
theorem d_Law_law_251 : decode M_Law_law.2.1 251 = .ok (.iconst 0, 1) := by decide +kernel
theorem d_Law_law_252 : decode M_Law_law.2.1 252 = .ok (.ireturn, 1) := by decide +kernel
theorem d_Law_law_253 : decode M_Law_law.2.1 253 = .ok (.goto 441, 3) := by decide +kernel
theorem d_Law_law_256 : decode M_Law_law.2.1 256 = .ok (.aload_n 1, 1) := by decide +kernel
theorem d_Law_law_257 : decode M_Law_law.2.1 257 = .ok (.aload_n 0, 1) := by decide +kernel
theorem d_Law_law_258 : decode M_Law_law.2.1 258 = .ok (.iload 4, 2) := by decide +kernel
theorem d_Law_law_260 : decode M_Law_law.2.1 260 = .ok (.iconst 1, 1) := by decide +kernel
theorem d_Law_law_261 : decode M_Law_law.2.1 261 = .ok (.iadd, 1) := by decide +kernel
theorem d_Law_law_262 : decode M_Law_law.2.1 262 = .ok (.iaload, 1) := by decide +kernel
theorem d_Law_law_263 : decode M_Law_law.2.1 263 = .ok (.invokestatic 61, 3) := by decide +kernel
theorem d_Law_law_266 : decode M_Law_law.2.1 266 = .ok (.istore 5, 2) := by decide +kernel
theorem d_Law_law_268 : decode M_Law_law.2.1 268 = .ok (.aload_n 2, 1) := by decide +kernel
theorem d_Law_law_269 : decode M_Law_law.2.1 269 = .ok (.aload_n 0, 1) := by decide +kernel
theorem d_Law_law_270 : decode M_Law_law.2.1 270 = .ok (.iload 4, 2) := by decide +kernel
theorem d_Law_law_272 : decode M_Law_law.2.1 272 = .ok (.iconst 1, 1) := by decide +kernel
theorem d_Law_law_273 : decode M_Law_law.2.1 273 = .ok (.iadd, 1) := by decide +kernel
theorem d_Law_law_274 : decode M_Law_law.2.1 274 = .ok (.iaload, 1) := by decide +kernel
theorem d_Law_law_275 : decode M_Law_law.2.1 275 = .ok (.invokevirtual 63, 3) := by decide +kernel
theorem d_Law_law_278 : decode M_Law_law.2.1 278 = .ok (.aload_n 2, 1) := by decide +kernel
theorem d_Law_law_279 : decode M_Law_law.2.1 279 = .ok (.invokevirtual 54, 3) := by decide +kernel
theorem d_Law_law_282 : decode M_Law_law.2.1 282 = .ok (.iload 5, 2) := by decide +kernel
theorem d_Law_law_284 : decode M_Law_law.2.1 284 = .ok (.if_icmp .eq 5, 3) := by decide +kernel
theorem d_Law_law_287 : decode M_Law_law.2.1 287 = .ok (.iconst 0, 1) := by decide +kernel
theorem d_Law_law_288 : decode M_Law_law.2.1 288 = .ok (.ireturn, 1) := by decide +kernel
theorem d_Law_law_289 : decode M_Law_law.2.1 289 = .ok (.goto 405, 3) := by decide +kernel
theorem d_Law_law_292 : decode M_Law_law.2.1 292 = .ok (.aload_n 1, 1) := by decide +kernel
theorem d_Law_law_293 : decode M_Law_law.2.1 293 = .ok (.aload_n 3, 1) := by decide +kernel
theorem d_Law_law_294 : decode M_Law_law.2.1 294 = .ok (.invokestatic 64, 3) := by decide +kernel
theorem d_Law_law_297 : decode M_Law_law.2.1 297 = .ok (.istore 5, 2) := by decide +kernel
theorem d_Law_law_299 : decode M_Law_law.2.1 299 = .ok (.aload_n 2, 1) := by decide +kernel
theorem d_Law_law_300 : decode M_Law_law.2.1 300 = .ok (.invokevirtual 67, 3) := by decide +kernel
theorem d_Law_law_303 : decode M_Law_law.2.1 303 = .ok (.istore 6, 2) := by decide +kernel
theorem d_Law_law_305 : decode M_Law_law.2.1 305 = .ok (.aload_n 2, 1) := by decide +kernel
theorem d_Law_law_306 : decode M_Law_law.2.1 306 = .ok (.invokevirtual 54, 3) := by decide +kernel
theorem d_Law_law_309 : decode M_Law_law.2.1 309 = .ok (.iload 5, 2) := by decide +kernel
theorem d_Law_law_311 : decode M_Law_law.2.1 311 = .ok (.if_icmp .eq 5, 3) := by decide +kernel
theorem d_Law_law_314 : decode M_Law_law.2.1 314 = .ok (.iconst 0, 1) := by decide +kernel
theorem d_Law_law_315 : decode M_Law_law.2.1 315 = .ok (.ireturn, 1) := by decide +kernel
theorem d_Law_law_316 : decode M_Law_law.2.1 316 = .ok (.iload 5, 2) := by decide +kernel
theorem d_Law_law_318 : decode M_Law_law.2.1 318 = .ok (.ifCond .ne 15, 3) := by decide +kernel
theorem d_Law_law_321 : decode M_Law_law.2.1 321 = .ok (.aload_n 3, 1) := by decide +kernel
theorem d_Law_law_322 : decode M_Law_law.2.1 322 = .ok (.iconst 0, 1) := by decide +kernel
theorem d_Law_law_323 : decode M_Law_law.2.1 323 = .ok (.laload, 1) := by decide +kernel
theorem d_Law_law_324 : decode M_Law_law.2.1 324 = .ok (.iload 6, 2) := by decide +kernel
theorem d_Law_law_326 : decode M_Law_law.2.1 326 = .ok (.i2l, 1) := by decide +kernel
theorem d_Law_law_327 : decode M_Law_law.2.1 327 = .ok (.lcmp, 1) := by decide +kernel
theorem d_Law_law_328 : decode M_Law_law.2.1 328 = .ok (.ifCond .eq 5, 3) := by decide +kernel
theorem d_Law_law_331 : decode M_Law_law.2.1 331 = .ok (.iconst 0, 1) := by decide +kernel
theorem d_Law_law_332 : decode M_Law_law.2.1 332 = .ok (.ireturn, 1) := by decide +kernel
theorem d_Law_law_333 : decode M_Law_law.2.1 333 = .ok (.goto 361, 3) := by decide +kernel
theorem d_Law_law_336 : decode M_Law_law.2.1 336 = .ok (.aload_n 1, 1) := by decide +kernel
theorem d_Law_law_337 : decode M_Law_law.2.1 337 = .ok (.aload_n 0, 1) := by decide +kernel
theorem d_Law_law_338 : decode M_Law_law.2.1 338 = .ok (.iload 4, 2) := by decide +kernel
theorem d_Law_law_340 : decode M_Law_law.2.1 340 = .ok (.iconst 1, 1) := by decide +kernel
theorem d_Law_law_341 : decode M_Law_law.2.1 341 = .ok (.iadd, 1) := by decide +kernel
theorem d_Law_law_342 : decode M_Law_law.2.1 342 = .ok (.iaload, 1) := by decide +kernel
theorem d_Law_law_343 : decode M_Law_law.2.1 343 = .ok (.aload_n 3, 1) := by decide +kernel
theorem d_Law_law_344 : decode M_Law_law.2.1 344 = .ok (.invokestatic 68, 3) := by decide +kernel
theorem d_Law_law_347 : decode M_Law_law.2.1 347 = .ok (.istore 5, 2) := by decide +kernel
theorem d_Law_law_349 : decode M_Law_law.2.1 349 = .ok (.aload_n 2, 1) := by decide +kernel
theorem d_Law_law_350 : decode M_Law_law.2.1 350 = .ok (.aload_n 0, 1) := by decide +kernel
theorem d_Law_law_351 : decode M_Law_law.2.1 351 = .ok (.iload 4, 2) := by decide +kernel
theorem d_Law_law_353 : decode M_Law_law.2.1 353 = .ok (.iconst 1, 1) := by decide +kernel
theorem d_Law_law_354 : decode M_Law_law.2.1 354 = .ok (.iadd, 1) := by decide +kernel
theorem d_Law_law_355 : decode M_Law_law.2.1 355 = .ok (.iaload, 1) := by decide +kernel
theorem d_Law_law_356 : decode M_Law_law.2.1 356 = .ok (.invokevirtual 71, 3) := by decide +kernel
theorem d_Law_law_359 : decode M_Law_law.2.1 359 = .ok (.istore 6, 2) := by decide +kernel
theorem d_Law_law_361 : decode M_Law_law.2.1 361 = .ok (.aload_n 2, 1) := by decide +kernel
theorem d_Law_law_362 : decode M_Law_law.2.1 362 = .ok (.invokevirtual 54, 3) := by decide +kernel
theorem d_Law_law_365 : decode M_Law_law.2.1 365 = .ok (.iload 5, 2) := by decide +kernel
theorem d_Law_law_367 : decode M_Law_law.2.1 367 = .ok (.if_icmp .eq 5, 3) := by decide +kernel
theorem d_Law_law_370 : decode M_Law_law.2.1 370 = .ok (.iconst 0, 1) := by decide +kernel
theorem d_Law_law_371 : decode M_Law_law.2.1 371 = .ok (.ireturn, 1) := by decide +kernel
theorem d_Law_law_372 : decode M_Law_law.2.1 372 = .ok (.iload 5, 2) := by decide +kernel
theorem d_Law_law_374 : decode M_Law_law.2.1 374 = .ok (.ifCond .ne 15, 3) := by decide +kernel
theorem d_Law_law_377 : decode M_Law_law.2.1 377 = .ok (.aload_n 3, 1) := by decide +kernel
theorem d_Law_law_378 : decode M_Law_law.2.1 378 = .ok (.iconst 0, 1) := by decide +kernel
theorem d_Law_law_379 : decode M_Law_law.2.1 379 = .ok (.laload, 1) := by decide +kernel
theorem d_Law_law_380 : decode M_Law_law.2.1 380 = .ok (.iload 6, 2) := by decide +kernel
theorem d_Law_law_382 : decode M_Law_law.2.1 382 = .ok (.i2l, 1) := by decide +kernel
theorem d_Law_law_383 : decode M_Law_law.2.1 383 = .ok (.lcmp, 1) := by decide +kernel
theorem d_Law_law_384 : decode M_Law_law.2.1 384 = .ok (.ifCond .eq 5, 3) := by decide +kernel
theorem d_Law_law_387 : decode M_Law_law.2.1 387 = .ok (.iconst 0, 1) := by decide +kernel
theorem d_Law_law_388 : decode M_Law_law.2.1 388 = .ok (.ireturn, 1) := by decide +kernel
theorem d_Law_law_389 : decode M_Law_law.2.1 389 = .ok (.goto 305, 3) := by decide +kernel
theorem d_Law_law_392 : decode M_Law_law.2.1 392 = .ok (.aload_n 1, 1) := by decide +kernel
theorem d_Law_law_393 : decode M_Law_law.2.1 393 = .ok (.aload_n 3, 1) := by decide +kernel
theorem d_Law_law_394 : decode M_Law_law.2.1 394 = .ok (.invokestatic 72, 3) := by decide +kernel
theorem d_Law_law_397 : decode M_Law_law.2.1 397 = .ok (.istore 5, 2) := by decide +kernel
theorem d_Law_law_399 : decode M_Law_law.2.1 399 = .ok (.aload_n 2, 1) := by decide +kernel
theorem d_Law_law_400 : decode M_Law_law.2.1 400 = .ok (.invokevirtual 74, 3) := by decide +kernel
theorem d_Law_law_403 : decode M_Law_law.2.1 403 = .ok (.istore 6, 2) := by decide +kernel
theorem d_Law_law_405 : decode M_Law_law.2.1 405 = .ok (.aload_n 2, 1) := by decide +kernel
theorem d_Law_law_406 : decode M_Law_law.2.1 406 = .ok (.invokevirtual 54, 3) := by decide +kernel
theorem d_Law_law_409 : decode M_Law_law.2.1 409 = .ok (.iload 5, 2) := by decide +kernel
theorem d_Law_law_411 : decode M_Law_law.2.1 411 = .ok (.if_icmp .eq 5, 3) := by decide +kernel
theorem d_Law_law_414 : decode M_Law_law.2.1 414 = .ok (.iconst 0, 1) := by decide +kernel
theorem d_Law_law_415 : decode M_Law_law.2.1 415 = .ok (.ireturn, 1) := by decide +kernel
theorem d_Law_law_416 : decode M_Law_law.2.1 416 = .ok (.iload 5, 2) := by decide +kernel
theorem d_Law_law_418 : decode M_Law_law.2.1 418 = .ok (.ifCond .ne 15, 3) := by decide +kernel
theorem d_Law_law_421 : decode M_Law_law.2.1 421 = .ok (.aload_n 3, 1) := by decide +kernel
theorem d_Law_law_422 : decode M_Law_law.2.1 422 = .ok (.iconst 0, 1) := by decide +kernel
theorem d_Law_law_423 : decode M_Law_law.2.1 423 = .ok (.laload, 1) := by decide +kernel
theorem d_Law_law_424 : decode M_Law_law.2.1 424 = .ok (.iload 6, 2) := by decide +kernel
theorem d_Law_law_426 : decode M_Law_law.2.1 426 = .ok (.i2l, 1) := by decide +kernel
theorem d_Law_law_427 : decode M_Law_law.2.1 427 = .ok (.lcmp, 1) := by decide +kernel
theorem d_Law_law_428 : decode M_Law_law.2.1 428 = .ok (.ifCond .eq 5, 3) := by decide +kernel
theorem d_Law_law_431 : decode M_Law_law.2.1 431 = .ok (.iconst 0, 1) := by decide +kernel
theorem d_Law_law_432 : decode M_Law_law.2.1 432 = .ok (.ireturn, 1) := by decide +kernel
theorem d_Law_law_433 : decode M_Law_law.2.1 433 = .ok (.goto 261, 3) := by decide +kernel
theorem d_Law_law_436 : decode M_Law_law.2.1 436 = .ok (.aload_n 1, 1) := by decide +kernel
theorem d_Law_law_437 : decode M_Law_law.2.1 437 = .ok (.invokevirtual 75, 3) := by decide +kernel
theorem d_Law_law_440 : decode M_Law_law.2.1 440 = .ok (.aload_n 2, 1) := by decide +kernel
theorem d_Law_law_441 : decode M_Law_law.2.1 441 = .ok (.invokevirtual 78, 3) := by decide +kernel
theorem d_Law_law_444 : decode M_Law_law.2.1 444 = .ok (.if_icmp .eq 250, 3) := by decide +kernel
theorem d_Law_law_447 : decode M_Law_law.2.1 447 = .ok (.iconst 0, 1) := by decide +kernel
theorem d_Law_law_448 : decode M_Law_law.2.1 448 = .ok (.ireturn, 1) := by decide +kernel
theorem d_Law_law_449 : decode M_Law_law.2.1 449 = .ok (.aload_n 1, 1) := by decide +kernel
theorem d_Law_law_450 : decode M_Law_law.2.1 450 = .ok (.invokevirtual 79, 3) := by decide +kernel
theorem d_Law_law_453 : decode M_Law_law.2.1 453 = .ok (.aload_n 2, 1) := by decide +kernel
theorem d_Law_law_454 : decode M_Law_law.2.1 454 = .ok (.invokevirtual 82, 3) := by decide +kernel
theorem d_Law_law_457 : decode M_Law_law.2.1 457 = .ok (.if_icmp .eq 237, 3) := by decide +kernel
theorem d_Law_law_460 : decode M_Law_law.2.1 460 = .ok (.iconst 0, 1) := by decide +kernel
theorem d_Law_law_461 : decode M_Law_law.2.1 461 = .ok (.ireturn, 1) := by decide +kernel
theorem d_Law_law_462 : decode M_Law_law.2.1 462 = .ok (.aload_n 1, 1) := by decide +kernel
theorem d_Law_law_463 : decode M_Law_law.2.1 463 = .ok (.invokevirtual 83, 3) := by decide +kernel
theorem d_Law_law_466 : decode M_Law_law.2.1 466 = .ok (.aload_n 2, 1) := by decide +kernel
theorem d_Law_law_467 : decode M_Law_law.2.1 467 = .ok (.invokevirtual 86, 3) := by decide +kernel
theorem d_Law_law_470 : decode M_Law_law.2.1 470 = .ok (.if_icmp .eq 224, 3) := by decide +kernel
theorem d_Law_law_473 : decode M_Law_law.2.1 473 = .ok (.iconst 0, 1) := by decide +kernel
theorem d_Law_law_474 : decode M_Law_law.2.1 474 = .ok (.ireturn, 1) := by decide +kernel
theorem d_Law_law_475 : decode M_Law_law.2.1 475 = .ok (.aload_n 1, 1) := by decide +kernel
theorem d_Law_law_476 : decode M_Law_law.2.1 476 = .ok (.invokevirtual 87, 3) := by decide +kernel
theorem d_Law_law_479 : decode M_Law_law.2.1 479 = .ok (.aload_n 2, 1) := by decide +kernel
theorem d_Law_law_480 : decode M_Law_law.2.1 480 = .ok (.invokevirtual 90, 3) := by decide +kernel
theorem d_Law_law_483 : decode M_Law_law.2.1 483 = .ok (.if_icmp .eq 211, 3) := by decide +kernel
theorem d_Law_law_486 : decode M_Law_law.2.1 486 = .ok (.iconst 0, 1) := by decide +kernel
theorem d_Law_law_487 : decode M_Law_law.2.1 487 = .ok (.ireturn, 1) := by decide +kernel
theorem d_Law_law_488 : decode M_Law_law.2.1 488 = .ok (.aload_n 1, 1) := by decide +kernel
theorem d_Law_law_489 : decode M_Law_law.2.1 489 = .ok (.aload_n 0, 1) := by decide +kernel
theorem d_Law_law_490 : decode M_Law_law.2.1 490 = .ok (.iload 4, 2) := by decide +kernel
theorem d_Law_law_492 : decode M_Law_law.2.1 492 = .ok (.iconst 1, 1) := by decide +kernel
theorem d_Law_law_493 : decode M_Law_law.2.1 493 = .ok (.iadd, 1) := by decide +kernel
theorem d_Law_law_494 : decode M_Law_law.2.1 494 = .ok (.iaload, 1) := by decide +kernel
theorem d_Law_law_495 : decode M_Law_law.2.1 495 = .ok (.aload_n 3, 1) := by decide +kernel
theorem d_Law_law_496 : decode M_Law_law.2.1 496 = .ok (.invokestatic 91, 3) := by decide +kernel
theorem d_Law_law_499 : decode M_Law_law.2.1 499 = .ok (.istore 5, 2) := by decide +kernel
theorem d_Law_law_501 : decode M_Law_law.2.1 501 = .ok (.aload_n 2, 1) := by decide +kernel
theorem d_Law_law_502 : decode M_Law_law.2.1 502 = .ok (.aload_n 0, 1) := by decide +kernel
theorem d_Law_law_503 : decode M_Law_law.2.1 503 = .ok (.iload 4, 2) := by decide +kernel
theorem d_Law_law_505 : decode M_Law_law.2.1 505 = .ok (.iconst 1, 1) := by decide +kernel
theorem d_Law_law_506 : decode M_Law_law.2.1 506 = .ok (.iadd, 1) := by decide +kernel
theorem d_Law_law_507 : decode M_Law_law.2.1 507 = .ok (.iaload, 1) := by decide +kernel
theorem d_Law_law_508 : decode M_Law_law.2.1 508 = .ok (.invokevirtual 93, 3) := by decide +kernel
theorem d_Law_law_511 : decode M_Law_law.2.1 511 = .ok (.istore 6, 2) := by decide +kernel
theorem d_Law_law_513 : decode M_Law_law.2.1 513 = .ok (.aload_n 2, 1) := by decide +kernel
theorem d_Law_law_514 : decode M_Law_law.2.1 514 = .ok (.invokevirtual 54, 3) := by decide +kernel
theorem d_Law_law_517 : decode M_Law_law.2.1 517 = .ok (.iload 5, 2) := by decide +kernel
theorem d_Law_law_519 : decode M_Law_law.2.1 519 = .ok (.if_icmp .eq 5, 3) := by decide +kernel
theorem d_Law_law_522 : decode M_Law_law.2.1 522 = .ok (.iconst 0, 1) := by decide +kernel
theorem d_Law_law_523 : decode M_Law_law.2.1 523 = .ok (.ireturn, 1) := by decide +kernel
theorem d_Law_law_524 : decode M_Law_law.2.1 524 = .ok (.iload 5, 2) := by decide +kernel
theorem d_Law_law_526 : decode M_Law_law.2.1 526 = .ok (.ifCond .ne 15, 3) := by decide +kernel
theorem d_Law_law_529 : decode M_Law_law.2.1 529 = .ok (.aload_n 3, 1) := by decide +kernel
theorem d_Law_law_530 : decode M_Law_law.2.1 530 = .ok (.iconst 0, 1) := by decide +kernel
theorem d_Law_law_531 : decode M_Law_law.2.1 531 = .ok (.laload, 1) := by decide +kernel
theorem d_Law_law_532 : decode M_Law_law.2.1 532 = .ok (.iload 6, 2) := by decide +kernel
theorem d_Law_law_534 : decode M_Law_law.2.1 534 = .ok (.i2l, 1) := by decide +kernel
theorem d_Law_law_535 : decode M_Law_law.2.1 535 = .ok (.lcmp, 1) := by decide +kernel
theorem d_Law_law_536 : decode M_Law_law.2.1 536 = .ok (.ifCond .eq 5, 3) := by decide +kernel
theorem d_Law_law_539 : decode M_Law_law.2.1 539 = .ok (.iconst 0, 1) := by decide +kernel
theorem d_Law_law_540 : decode M_Law_law.2.1 540 = .ok (.ireturn, 1) := by decide +kernel
theorem d_Law_law_541 : decode M_Law_law.2.1 541 = .ok (.goto 153, 3) := by decide +kernel
theorem d_Law_law_544 : decode M_Law_law.2.1 544 = .ok (.aload_n 1, 1) := by decide +kernel
theorem d_Law_law_545 : decode M_Law_law.2.1 545 = .ok (.invokevirtual 94, 3) := by decide +kernel
theorem d_Law_law_548 : decode M_Law_law.2.1 548 = .ok (.aload_n 2, 1) := by decide +kernel
theorem d_Law_law_549 : decode M_Law_law.2.1 549 = .ok (.invokevirtual 97, 3) := by decide +kernel
theorem d_Law_law_552 : decode M_Law_law.2.1 552 = .ok (.if_icmp .eq 142, 3) := by decide +kernel
theorem d_Law_law_555 : decode M_Law_law.2.1 555 = .ok (.iconst 0, 1) := by decide +kernel
theorem d_Law_law_556 : decode M_Law_law.2.1 556 = .ok (.ireturn, 1) := by decide +kernel
theorem d_Law_law_557 : decode M_Law_law.2.1 557 = .ok (.aload_n 1, 1) := by decide +kernel
theorem d_Law_law_558 : decode M_Law_law.2.1 558 = .ok (.aload_n 0, 1) := by decide +kernel
theorem d_Law_law_559 : decode M_Law_law.2.1 559 = .ok (.iload 4, 2) := by decide +kernel
theorem d_Law_law_561 : decode M_Law_law.2.1 561 = .ok (.iconst 1, 1) := by decide +kernel
theorem d_Law_law_562 : decode M_Law_law.2.1 562 = .ok (.iadd, 1) := by decide +kernel
theorem d_Law_law_563 : decode M_Law_law.2.1 563 = .ok (.iaload, 1) := by decide +kernel
theorem d_Law_law_564 : decode M_Law_law.2.1 564 = .ok (.invokevirtual 98, 3) := by decide +kernel
theorem d_Law_law_567 : decode M_Law_law.2.1 567 = .ok (.aload_n 2, 1) := by decide +kernel
theorem d_Law_law_568 : decode M_Law_law.2.1 568 = .ok (.aload_n 0, 1) := by decide +kernel
theorem d_Law_law_569 : decode M_Law_law.2.1 569 = .ok (.iload 4, 2) := by decide +kernel
theorem d_Law_law_571 : decode M_Law_law.2.1 571 = .ok (.iconst 1, 1) := by decide +kernel
theorem d_Law_law_572 : decode M_Law_law.2.1 572 = .ok (.iadd, 1) := by decide +kernel
theorem d_Law_law_573 : decode M_Law_law.2.1 573 = .ok (.iaload, 1) := by decide +kernel
theorem d_Law_law_574 : decode M_Law_law.2.1 574 = .ok (.invokevirtual 101, 3) := by decide +kernel
theorem d_Law_law_577 : decode M_Law_law.2.1 577 = .ok (.if_icmp .eq 117, 3) := by decide +kernel
theorem d_Law_law_580 : decode M_Law_law.2.1 580 = .ok (.iconst 0, 1) := by decide +kernel
theorem d_Law_law_581 : decode M_Law_law.2.1 581 = .ok (.ireturn, 1) := by decide +kernel
theorem d_Law_law_582 : decode M_Law_law.2.1 582 = .ok (.aload_n 1, 1) := by decide +kernel
theorem d_Law_law_583 : decode M_Law_law.2.1 583 = .ok (.aload_n 0, 1) := by decide +kernel
theorem d_Law_law_584 : decode M_Law_law.2.1 584 = .ok (.iload 4, 2) := by decide +kernel
theorem d_Law_law_586 : decode M_Law_law.2.1 586 = .ok (.iconst 1, 1) := by decide +kernel
theorem d_Law_law_587 : decode M_Law_law.2.1 587 = .ok (.iadd, 1) := by decide +kernel
theorem d_Law_law_588 : decode M_Law_law.2.1 588 = .ok (.iaload, 1) := by decide +kernel
theorem d_Law_law_589 : decode M_Law_law.2.1 589 = .ok (.invokevirtual 102, 3) := by decide +kernel
theorem d_Law_law_592 : decode M_Law_law.2.1 592 = .ok (.aload_n 2, 1) := by decide +kernel
theorem d_Law_law_593 : decode M_Law_law.2.1 593 = .ok (.aload_n 0, 1) := by decide +kernel
theorem d_Law_law_594 : decode M_Law_law.2.1 594 = .ok (.iload 4, 2) := by decide +kernel
theorem d_Law_law_596 : decode M_Law_law.2.1 596 = .ok (.iconst 1, 1) := by decide +kernel
theorem d_Law_law_597 : decode M_Law_law.2.1 597 = .ok (.iadd, 1) := by decide +kernel
theorem d_Law_law_598 : decode M_Law_law.2.1 598 = .ok (.iaload, 1) := by decide +kernel
theorem d_Law_law_599 : decode M_Law_law.2.1 599 = .ok (.invokevirtual 105, 3) := by decide +kernel
theorem d_Law_law_602 : decode M_Law_law.2.1 602 = .ok (.if_icmp .eq 92, 3) := by decide +kernel
theorem d_Law_law_605 : decode M_Law_law.2.1 605 = .ok (.iconst 0, 1) := by decide +kernel
theorem d_Law_law_606 : decode M_Law_law.2.1 606 = .ok (.ireturn, 1) := by decide +kernel
theorem d_Law_law_607 : decode M_Law_law.2.1 607 = .ok (.aload_n 1, 1) := by decide +kernel
theorem d_Law_law_608 : decode M_Law_law.2.1 608 = .ok (.aload_n 0, 1) := by decide +kernel
theorem d_Law_law_609 : decode M_Law_law.2.1 609 = .ok (.iload 4, 2) := by decide +kernel
theorem d_Law_law_611 : decode M_Law_law.2.1 611 = .ok (.iconst 1, 1) := by decide +kernel
theorem d_Law_law_612 : decode M_Law_law.2.1 612 = .ok (.iadd, 1) := by decide +kernel
theorem d_Law_law_613 : decode M_Law_law.2.1 613 = .ok (.iaload, 1) := by decide +kernel
theorem d_Law_law_614 : decode M_Law_law.2.1 614 = .ok (.invokevirtual 106, 3) := by decide +kernel
theorem d_Law_law_617 : decode M_Law_law.2.1 617 = .ok (.aload_n 2, 1) := by decide +kernel
theorem d_Law_law_618 : decode M_Law_law.2.1 618 = .ok (.aload_n 0, 1) := by decide +kernel
theorem d_Law_law_619 : decode M_Law_law.2.1 619 = .ok (.iload 4, 2) := by decide +kernel
theorem d_Law_law_621 : decode M_Law_law.2.1 621 = .ok (.iconst 1, 1) := by decide +kernel
theorem d_Law_law_622 : decode M_Law_law.2.1 622 = .ok (.iadd, 1) := by decide +kernel
theorem d_Law_law_623 : decode M_Law_law.2.1 623 = .ok (.iaload, 1) := by decide +kernel
theorem d_Law_law_624 : decode M_Law_law.2.1 624 = .ok (.invokevirtual 109, 3) := by decide +kernel
theorem d_Law_law_627 : decode M_Law_law.2.1 627 = .ok (.if_icmp .eq 67, 3) := by decide +kernel
theorem d_Law_law_630 : decode M_Law_law.2.1 630 = .ok (.iconst 0, 1) := by decide +kernel
theorem d_Law_law_631 : decode M_Law_law.2.1 631 = .ok (.ireturn, 1) := by decide +kernel
theorem d_Law_law_632 : decode M_Law_law.2.1 632 = .ok (.aload_n 1, 1) := by decide +kernel
theorem d_Law_law_633 : decode M_Law_law.2.1 633 = .ok (.aload_n 0, 1) := by decide +kernel
theorem d_Law_law_634 : decode M_Law_law.2.1 634 = .ok (.iload 4, 2) := by decide +kernel
theorem d_Law_law_636 : decode M_Law_law.2.1 636 = .ok (.iconst 1, 1) := by decide +kernel
theorem d_Law_law_637 : decode M_Law_law.2.1 637 = .ok (.iadd, 1) := by decide +kernel
theorem d_Law_law_638 : decode M_Law_law.2.1 638 = .ok (.iaload, 1) := by decide +kernel
theorem d_Law_law_639 : decode M_Law_law.2.1 639 = .ok (.aload_n 0, 1) := by decide +kernel
theorem d_Law_law_640 : decode M_Law_law.2.1 640 = .ok (.iload 4, 2) := by decide +kernel
theorem d_Law_law_642 : decode M_Law_law.2.1 642 = .ok (.iconst 2, 1) := by decide +kernel
theorem d_Law_law_643 : decode M_Law_law.2.1 643 = .ok (.iadd, 1) := by decide +kernel
theorem d_Law_law_644 : decode M_Law_law.2.1 644 = .ok (.iaload, 1) := by decide +kernel
theorem d_Law_law_645 : decode M_Law_law.2.1 645 = .ok (.invokevirtual 110, 3) := by decide +kernel
theorem d_Law_law_648 : decode M_Law_law.2.1 648 = .ok (.aload_n 2, 1) := by decide +kernel
theorem d_Law_law_649 : decode M_Law_law.2.1 649 = .ok (.aload_n 0, 1) := by decide +kernel
theorem d_Law_law_650 : decode M_Law_law.2.1 650 = .ok (.iload 4, 2) := by decide +kernel
theorem d_Law_law_652 : decode M_Law_law.2.1 652 = .ok (.iconst 1, 1) := by decide +kernel
theorem d_Law_law_653 : decode M_Law_law.2.1 653 = .ok (.iadd, 1) := by decide +kernel
theorem d_Law_law_654 : decode M_Law_law.2.1 654 = .ok (.iaload, 1) := by decide +kernel
theorem d_Law_law_655 : decode M_Law_law.2.1 655 = .ok (.aload_n 0, 1) := by decide +kernel
theorem d_Law_law_656 : decode M_Law_law.2.1 656 = .ok (.iload 4, 2) := by decide +kernel
theorem d_Law_law_658 : decode M_Law_law.2.1 658 = .ok (.iconst 2, 1) := by decide +kernel
theorem d_Law_law_659 : decode M_Law_law.2.1 659 = .ok (.iadd, 1) := by decide +kernel
theorem d_Law_law_660 : decode M_Law_law.2.1 660 = .ok (.iaload, 1) := by decide +kernel
theorem d_Law_law_661 : decode M_Law_law.2.1 661 = .ok (.invokevirtual 114, 3) := by decide +kernel
theorem d_Law_law_664 : decode M_Law_law.2.1 664 = .ok (.if_icmp .eq 30, 3) := by decide +kernel
theorem d_Law_law_667 : decode M_Law_law.2.1 667 = .ok (.iconst 0, 1) := by decide +kernel
theorem d_Law_law_668 : decode M_Law_law.2.1 668 = .ok (.ireturn, 1) := by decide +kernel
theorem d_Law_law_669 : decode M_Law_law.2.1 669 = .ok (.aload_n 1, 1) := by decide +kernel
theorem d_Law_law_670 : decode M_Law_law.2.1 670 = .ok (.aload_n 0, 1) := by decide +kernel
theorem d_Law_law_671 : decode M_Law_law.2.1 671 = .ok (.iload 4, 2) := by decide +kernel
theorem d_Law_law_673 : decode M_Law_law.2.1 673 = .ok (.iconst 1, 1) := by decide +kernel
theorem d_Law_law_674 : decode M_Law_law.2.1 674 = .ok (.iadd, 1) := by decide +kernel
theorem d_Law_law_675 : decode M_Law_law.2.1 675 = .ok (.iaload, 1) := by decide +kernel
theorem d_Law_law_676 : decode M_Law_law.2.1 676 = .ok (.invokevirtual 115, 3) := by decide +kernel
theorem d_Law_law_679 : decode M_Law_law.2.1 679 = .ok (.aload_n 2, 1) := by decide +kernel
theorem d_Law_law_680 : decode M_Law_law.2.1 680 = .ok (.aload_n 0, 1) := by decide +kernel
theorem d_Law_law_681 : decode M_Law_law.2.1 681 = .ok (.iload 4, 2) := by decide +kernel
theorem d_Law_law_683 : decode M_Law_law.2.1 683 = .ok (.iconst 1, 1) := by decide +kernel
theorem d_Law_law_684 : decode M_Law_law.2.1 684 = .ok (.iadd, 1) := by decide +kernel
theorem d_Law_law_685 : decode M_Law_law.2.1 685 = .ok (.iaload, 1) := by decide +kernel
theorem d_Law_law_686 : decode M_Law_law.2.1 686 = .ok (.invokevirtual 118, 3) := by decide +kernel
theorem d_Law_law_689 : decode M_Law_law.2.1 689 = .ok (.if_icmp .eq 5, 3) := by decide +kernel
theorem d_Law_law_692 : decode M_Law_law.2.1 692 = .ok (.iconst 0, 1) := by decide +kernel
theorem d_Law_law_693 : decode M_Law_law.2.1 693 = .ok (.ireturn, 1) := by decide +kernel
theorem d_Law_law_694 : decode M_Law_law.2.1 694 = .ok (.iinc 4 4, 3) := by decide +kernel
theorem d_Law_law_697 : decode M_Law_law.2.1 697 = .ok (.goto (-674), 3) := by decide +kernel
theorem d_Law_law_700 : decode M_Law_law.2.1 700 = .ok (.iconst 1, 1) := by decide +kernel
theorem d_Law_law_701 : decode M_Law_law.2.1 701 = .ok (.ireturn, 1) := by decide +kernel
theorem d_Arrays_fill_0 : decode M_Arrays_fill.2.1 0 = .ok (.iconst 0, 1) := by decide +kernel
theorem d_Arrays_fill_1 : decode M_Arrays_fill.2.1 1 = .ok (.istore_n 2, 1) := by decide +kernel
theorem d_Arrays_fill_2 : decode M_Arrays_fill.2.1 2 = .ok (.aload_n 0, 1) := by decide +kernel
theorem d_Arrays_fill_3 : decode M_Arrays_fill.2.1 3 = .ok (.arraylength, 1) := by decide +kernel
theorem d_Arrays_fill_4 : decode M_Arrays_fill.2.1 4 = .ok (.istore_n 3, 1) := by decide +kernel
theorem d_Arrays_fill_5 : decode M_Arrays_fill.2.1 5 = .ok (.iload_n 2, 1) := by decide +kernel
theorem d_Arrays_fill_6 : decode M_Arrays_fill.2.1 6 = .ok (.iload_n 3, 1) := by decide +kernel
theorem d_Arrays_fill_7 : decode M_Arrays_fill.2.1 7 = .ok (.if_icmp .ge 13, 3) := by decide +kernel
theorem d_Arrays_fill_10 : decode M_Arrays_fill.2.1 10 = .ok (.aload_n 0, 1) := by decide +kernel
theorem d_Arrays_fill_11 : decode M_Arrays_fill.2.1 11 = .ok (.iload_n 2, 1) := by decide +kernel
theorem d_Arrays_fill_12 : decode M_Arrays_fill.2.1 12 = .ok (.iload_n 1, 1) := by decide +kernel
theorem d_Arrays_fill_13 : decode M_Arrays_fill.2.1 13 = .ok (.iastore, 1) := by decide +kernel
theorem d_Arrays_fill_14 : decode M_Arrays_fill.2.1 14 = .ok (.iinc 2 1, 3) := by decide +kernel
theorem d_Arrays_fill_17 : decode M_Arrays_fill.2.1 17 = .ok (.goto (-12), 3) := by decide +kernel
theorem d_Arrays_fill_20 : decode M_Arrays_fill.2.1 20 = .ok (.return_, 1) := by decide +kernel
