theorem d_Main_init_0 : decode M_Main_init.2.1 0 = .ok (.aload_n 0, 1) := by decide +kernel
theorem d_Main_init_1 : decode M_Main_init.2.1 1 = .ok (.invokespecial 3, 3) := by decide +kernel
theorem d_Main_init_4 : decode M_Main_init.2.1 4 = .ok (.aload_n 0, 1) := by decide +kernel
theorem d_Main_init_5 : decode M_Main_init.2.1 5 = .ok (.new 9, 3) := by decide +kernel
theorem d_Main_init_8 : decode M_Main_init.2.1 8 = .ok (.dup, 1) := by decide +kernel
theorem d_Main_init_9 : decode M_Main_init.2.1 9 = .ok (.sipush 400, 3) := by decide +kernel
theorem d_Main_init_12 : decode M_Main_init.2.1 12 = .ok (.invokespecial 11, 3) := by decide +kernel
theorem d_Main_init_15 : decode M_Main_init.2.1 15 = .ok (.putfield 14, 3) := by decide +kernel
theorem d_Main_init_18 : decode M_Main_init.2.1 18 = .ok (.aload_n 0, 1) := by decide +kernel
theorem d_Main_init_19 : decode M_Main_init.2.1 19 = .ok (.new 9, 3) := by decide +kernel
theorem d_Main_init_22 : decode M_Main_init.2.1 22 = .ok (.dup, 1) := by decide +kernel
theorem d_Main_init_23 : decode M_Main_init.2.1 23 = .ok (.sipush 4600, 3) := by decide +kernel
theorem d_Main_init_26 : decode M_Main_init.2.1 26 = .ok (.invokespecial 11, 3) := by decide +kernel
theorem d_Main_init_29 : decode M_Main_init.2.1 29 = .ok (.putfield 18, 3) := by decide +kernel
theorem d_Main_init_32 : decode M_Main_init.2.1 32 = .ok (.aload_n 0, 1) := by decide +kernel
theorem d_Main_init_33 : decode M_Main_init.2.1 33 = .ok (.new 9, 3) := by decide +kernel
theorem d_Main_init_36 : decode M_Main_init.2.1 36 = .ok (.dup, 1) := by decide +kernel
theorem d_Main_init_37 : decode M_Main_init.2.1 37 = .ok (.sipush 2000, 3) := by decide +kernel
theorem d_Main_init_40 : decode M_Main_init.2.1 40 = .ok (.invokespecial 11, 3) := by decide +kernel
theorem d_Main_init_43 : decode M_Main_init.2.1 43 = .ok (.putfield 21, 3) := by decide +kernel
theorem d_Main_init_46 : decode M_Main_init.2.1 46 = .ok (.aload_n 0, 1) := by decide +kernel
theorem d_Main_init_47 : decode M_Main_init.2.1 47 = .ok (.new 24, 3) := by decide +kernel
theorem d_Main_init_50 : decode M_Main_init.2.1 50 = .ok (.dup, 1) := by decide +kernel
theorem d_Main_init_51 : decode M_Main_init.2.1 51 = .ok (.aload_n 0, 1) := by decide +kernel
theorem d_Main_init_52 : decode M_Main_init.2.1 52 = .ok (.getfield 14, 3) := by decide +kernel
theorem d_Main_init_55 : decode M_Main_init.2.1 55 = .ok (.invokespecial 26, 3) := by decide +kernel
theorem d_Main_init_58 : decode M_Main_init.2.1 58 = .ok (.putfield 29, 3) := by decide +kernel
theorem d_Main_init_61 : decode M_Main_init.2.1 61 = .ok (.aload_n 0, 1) := by decide +kernel
theorem d_Main_init_62 : decode M_Main_init.2.1 62 = .ok (.new 33, 3) := by decide +kernel
theorem d_Main_init_65 : decode M_Main_init.2.1 65 = .ok (.dup, 1) := by decide +kernel
theorem d_Main_init_66 : decode M_Main_init.2.1 66 = .ok (.aload_n 0, 1) := by decide +kernel
theorem d_Main_init_67 : decode M_Main_init.2.1 67 = .ok (.getfield 29, 3) := by decide +kernel
theorem d_Main_init_70 : decode M_Main_init.2.1 70 = .ok (.invokespecial 35, 3) := by decide +kernel
theorem d_Main_init_73 : decode M_Main_init.2.1 73 = .ok (.putfield 38, 3) := by decide +kernel
theorem d_Main_init_76 : decode M_Main_init.2.1 76 = .ok (.aload_n 0, 1) := by decide +kernel
theorem d_Main_init_77 : decode M_Main_init.2.1 77 = .ok (.new 42, 3) := by decide +kernel
theorem d_Main_init_80 : decode M_Main_init.2.1 80 = .ok (.dup, 1) := by decide +kernel
theorem d_Main_init_81 : decode M_Main_init.2.1 81 = .ok (.invokespecial 44, 3) := by decide +kernel
theorem d_Main_init_84 : decode M_Main_init.2.1 84 = .ok (.putfield 45, 3) := by decide +kernel
theorem d_Main_init_87 : decode M_Main_init.2.1 87 = .ok (.aload_n 0, 1) := by decide +kernel
theorem d_Main_init_88 : decode M_Main_init.2.1 88 = .ok (.new 49, 3) := by decide +kernel
theorem d_Main_init_91 : decode M_Main_init.2.1 91 = .ok (.dup, 1) := by decide +kernel
theorem d_Main_init_92 : decode M_Main_init.2.1 92 = .ok (.aload_n 0, 1) := by decide +kernel
theorem d_Main_init_93 : decode M_Main_init.2.1 93 = .ok (.getfield 18, 3) := by decide +kernel
theorem d_Main_init_96 : decode M_Main_init.2.1 96 = .ok (.invokespecial 51, 3) := by decide +kernel
theorem d_Main_init_99 : decode M_Main_init.2.1 99 = .ok (.putfield 52, 3) := by decide +kernel
theorem d_Main_init_102 : decode M_Main_init.2.1 102 = .ok (.aload_n 0, 1) := by decide +kernel
theorem d_Main_init_103 : decode M_Main_init.2.1 103 = .ok (.new 56, 3) := by decide +kernel
theorem d_Main_init_106 : decode M_Main_init.2.1 106 = .ok (.dup, 1) := by decide +kernel
theorem d_Main_init_107 : decode M_Main_init.2.1 107 = .ok (.invokespecial 58, 3) := by decide +kernel
theorem d_Main_init_110 : decode M_Main_init.2.1 110 = .ok (.putfield 59, 3) := by decide +kernel
theorem d_Main_init_113 : decode M_Main_init.2.1 113 = .ok (.aload_n 0, 1) := by decide +kernel
theorem d_Main_init_114 : decode M_Main_init.2.1 114 = .ok (.new 56, 3) := by decide +kernel
theorem d_Main_init_117 : decode M_Main_init.2.1 117 = .ok (.dup, 1) := by decide +kernel
theorem d_Main_init_118 : decode M_Main_init.2.1 118 = .ok (.invokespecial 58, 3) := by decide +kernel
theorem d_Main_init_121 : decode M_Main_init.2.1 121 = .ok (.putfield 63, 3) := by decide +kernel
theorem d_Main_init_124 : decode M_Main_init.2.1 124 = .ok (.aload_n 0, 1) := by decide +kernel
theorem d_Main_init_125 : decode M_Main_init.2.1 125 = .ok (.iconst 0, 1) := by decide +kernel
theorem d_Main_init_126 : decode M_Main_init.2.1 126 = .ok (.putfield 66, 3) := by decide +kernel
theorem d_Main_init_129 : decode M_Main_init.2.1 129 = .ok (.aload_n 0, 1) := by decide +kernel
theorem d_Main_init_130 : decode M_Main_init.2.1 130 = .ok (.iconst 0, 1) := by decide +kernel
theorem d_Main_init_131 : decode M_Main_init.2.1 131 = .ok (.putfield 70, 3) := by decide +kernel
theorem d_Main_init_134 : decode M_Main_init.2.1 134 = .ok (.aload_n 0, 1) := by decide +kernel
theorem d_Main_init_135 : decode M_Main_init.2.1 135 = .ok (.iconst (-1), 1) := by decide +kernel
theorem d_Main_init_136 : decode M_Main_init.2.1 136 = .ok (.putfield 73, 3) := by decide +kernel
theorem d_Main_init_139 : decode M_Main_init.2.1 139 = .ok (.return_, 1) := by decide +kernel
theorem d_Main_feed_0 : decode M_Main_feed.2.1 0 = .ok (.iload_n 3, 1) := by decide +kernel
theorem d_Main_feed_1 : decode M_Main_feed.2.1 1 = .ok (.iconst 1, 1) := by decide +kernel
theorem d_Main_feed_2 : decode M_Main_feed.2.1 2 = .ok (.if_icmp .lt 9, 3) := by decide +kernel
theorem d_Main_feed_5 : decode M_Main_feed.2.1 5 = .ok (.iload_n 3, 1) := by decide +kernel
theorem d_Main_feed_6 : decode M_Main_feed.2.1 6 = .ok (.bipush 8, 2) := by decide +kernel
theorem d_Main_feed_8 : decode M_Main_feed.2.1 8 = .ok (.if_icmp .le 13, 3) := by decide +kernel
theorem d_Main_feed_11 : decode M_Main_feed.2.1 11 = .ok (.new 76, 3) := by decide +kernel
theorem d_Main_feed_14 : decode M_Main_feed.2.1 14 = .ok (.dup, 1) := by decide +kernel
theorem d_Main_feed_15 : decode M_Main_feed.2.1 15 = .ok (.ldc 78, 2) := by decide +kernel
theorem d_Main_feed_17 : decode M_Main_feed.2.1 17 = .ok (.invokespecial 80, 3) := by decide +kernel
theorem d_Main_feed_20 : decode M_Main_feed.2.1 20 = .ok (.athrow, 1) := by decide +kernel
theorem d_Main_feed_21 : decode M_Main_feed.2.1 21 = .ok (.aload_n 0, 1) := by decide +kernel
theorem d_Main_feed_22 : decode M_Main_feed.2.1 22 = .ok (.getfield 14, 3) := by decide +kernel
theorem d_Main_feed_25 : decode M_Main_feed.2.1 25 = .ok (.iload_n 3, 1) := by decide +kernel
theorem d_Main_feed_26 : decode M_Main_feed.2.1 26 = .ok (.invokevirtual 83, 3) := by decide +kernel
theorem d_Main_feed_29 : decode M_Main_feed.2.1 29 = .ok (.ifCond .ne 13, 3) := by decide +kernel
theorem d_Main_feed_32 : decode M_Main_feed.2.1 32 = .ok (.new 87, 3) := by decide +kernel
theorem d_Main_feed_35 : decode M_Main_feed.2.1 35 = .ok (.dup, 1) := by decide +kernel
theorem d_Main_feed_36 : decode M_Main_feed.2.1 36 = .ok (.ldc 89, 2) := by decide +kernel
theorem d_Main_feed_38 : decode M_Main_feed.2.1 38 = .ok (.invokespecial 91, 3) := by decide +kernel
theorem d_Main_feed_41 : decode M_Main_feed.2.1 41 = .ok (.athrow, 1) := by decide +kernel
theorem d_Main_feed_42 : decode M_Main_feed.2.1 42 = .ok (.iload_n 3, 1) := by decide +kernel
theorem d_Main_feed_43 : decode M_Main_feed.2.1 43 = .ok (.iconst 1, 1) := by decide +kernel
theorem d_Main_feed_44 : decode M_Main_feed.2.1 44 = .ok (.isub, 1) := by decide +kernel
theorem d_Main_feed_45 : decode M_Main_feed.2.1 45 = .ok (.istore 4, 2) := by decide +kernel
theorem d_Main_feed_47 : decode M_Main_feed.2.1 47 = .ok (.iload 4, 2) := by decide +kernel
theorem d_Main_feed_49 : decode M_Main_feed.2.1 49 = .ok (.ifCond .lt 28, 3) := by decide +kernel
theorem d_Main_feed_52 : decode M_Main_feed.2.1 52 = .ok (.aload_n 0, 1) := by decide +kernel
theorem d_Main_feed_53 : decode M_Main_feed.2.1 53 = .ok (.getfield 14, 3) := by decide +kernel
theorem d_Main_feed_56 : decode M_Main_feed.2.1 56 = .ok (.lload_n 1, 1) := by decide +kernel
theorem d_Main_feed_57 : decode M_Main_feed.2.1 57 = .ok (.bipush 8, 2) := by decide +kernel
theorem d_Main_feed_59 : decode M_Main_feed.2.1 59 = .ok (.iload 4, 2) := by decide +kernel
theorem d_Main_feed_61 : decode M_Main_feed.2.1 61 = .ok (.imul, 1) := by decide +kernel
theorem d_Main_feed_62 : decode M_Main_feed.2.1 62 = .ok (.lushr, 1) := by decide +kernel
theorem d_Main_feed_63 : decode M_Main_feed.2.1 63 = .ok (.l2i, 1) := by decide +kernel
theorem d_Main_feed_64 : decode M_Main_feed.2.1 64 = .ok (.sipush 255, 3) := by decide +kernel
theorem d_Main_feed_67 : decode M_Main_feed.2.1 67 = .ok (.iand, 1) := by decide +kernel
theorem d_Main_feed_68 : decode M_Main_feed.2.1 68 = .ok (.invokevirtual 92, 3) := by decide +kernel
theorem d_Main_feed_71 : decode M_Main_feed.2.1 71 = .ok (.iinc 4 (-1), 3) := by decide +kernel
theorem d_Main_feed_74 : decode M_Main_feed.2.1 74 = .ok (.goto (-27), 3) := by decide +kernel
theorem d_Main_feed_77 : decode M_Main_feed.2.1 77 = .ok (.aload_n 0, 1) := by decide +kernel
theorem d_Main_feed_78 : decode M_Main_feed.2.1 78 = .ok (.getfield 14, 3) := by decide +kernel
theorem d_Main_feed_81 : decode M_Main_feed.2.1 81 = .ok (.getfield 95, 3) := by decide +kernel
theorem d_Main_feed_84 : decode M_Main_feed.2.1 84 = .ok (.ireturn, 1) := by decide +kernel
theorem d_Main_keep_0 : decode M_Main_keep.2.1 0 = .ok (.iload_n 1, 1) := by decide +kernel
theorem d_Main_keep_1 : decode M_Main_keep.2.1 1 = .ok (.ifCond .lt 14, 3) := by decide +kernel
theorem d_Main_keep_4 : decode M_Main_keep.2.1 4 = .ok (.iload_n 1, 1) := by decide +kernel
theorem d_Main_keep_5 : decode M_Main_keep.2.1 5 = .ok (.aload_n 0, 1) := by decide +kernel
theorem d_Main_keep_6 : decode M_Main_keep.2.1 6 = .ok (.getfield 14, 3) := by decide +kernel
theorem d_Main_keep_9 : decode M_Main_keep.2.1 9 = .ok (.getfield 95, 3) := by decide +kernel
theorem d_Main_keep_12 : decode M_Main_keep.2.1 12 = .ok (.if_icmp .le 13, 3) := by decide +kernel
theorem d_Main_keep_15 : decode M_Main_keep.2.1 15 = .ok (.new 76, 3) := by decide +kernel
theorem d_Main_keep_18 : decode M_Main_keep.2.1 18 = .ok (.dup, 1) := by decide +kernel
theorem d_Main_keep_19 : decode M_Main_keep.2.1 19 = .ok (.ldc 98, 2) := by decide +kernel
theorem d_Main_keep_21 : decode M_Main_keep.2.1 21 = .ok (.invokespecial 80, 3) := by decide +kernel
theorem d_Main_keep_24 : decode M_Main_keep.2.1 24 = .ok (.athrow, 1) := by decide +kernel
theorem d_Main_keep_25 : decode M_Main_keep.2.1 25 = .ok (.aload_n 0, 1) := by decide +kernel
theorem d_Main_keep_26 : decode M_Main_keep.2.1 26 = .ok (.getfield 14, 3) := by decide +kernel
theorem d_Main_keep_29 : decode M_Main_keep.2.1 29 = .ok (.iload_n 1, 1) := by decide +kernel
theorem d_Main_keep_30 : decode M_Main_keep.2.1 30 = .ok (.invokevirtual 100, 3) := by decide +kernel
theorem d_Main_keep_33 : decode M_Main_keep.2.1 33 = .ok (.return_, 1) := by decide +kernel
theorem d_Main_damage_0 : decode M_Main_damage.2.1 0 = .ok (.iload_n 1, 1) := by decide +kernel
theorem d_Main_damage_1 : decode M_Main_damage.2.1 1 = .ok (.ifCond .lt 17, 3) := by decide +kernel
theorem d_Main_damage_4 : decode M_Main_damage.2.1 4 = .ok (.iload_n 1, 1) := by decide +kernel
theorem d_Main_damage_5 : decode M_Main_damage.2.1 5 = .ok (.bipush 8, 2) := by decide +kernel
theorem d_Main_damage_7 : decode M_Main_damage.2.1 7 = .ok (.aload_n 0, 1) := by decide +kernel
theorem d_Main_damage_8 : decode M_Main_damage.2.1 8 = .ok (.getfield 14, 3) := by decide +kernel
theorem d_Main_damage_11 : decode M_Main_damage.2.1 11 = .ok (.getfield 95, 3) := by decide +kernel
theorem d_Main_damage_14 : decode M_Main_damage.2.1 14 = .ok (.imul, 1) := by decide +kernel
theorem d_Main_damage_15 : decode M_Main_damage.2.1 15 = .ok (.if_icmp .lt 13, 3) := by decide +kernel
theorem d_Main_damage_18 : decode M_Main_damage.2.1 18 = .ok (.new 103, 3) := by decide +kernel
theorem d_Main_damage_21 : decode M_Main_damage.2.1 21 = .ok (.dup, 1) := by decide +kernel
theorem d_Main_damage_22 : decode M_Main_damage.2.1 22 = .ok (.ldc 105, 2) := by decide +kernel
theorem d_Main_damage_24 : decode M_Main_damage.2.1 24 = .ok (.invokespecial 107, 3) := by decide +kernel
theorem d_Main_damage_27 : decode M_Main_damage.2.1 27 = .ok (.athrow, 1) := by decide +kernel
theorem d_Main_damage_28 : decode M_Main_damage.2.1 28 = .ok (.aload_n 0, 1) := by decide +kernel
theorem d_Main_damage_29 : decode M_Main_damage.2.1 29 = .ok (.getfield 14, 3) := by decide +kernel
theorem d_Main_damage_32 : decode M_Main_damage.2.1 32 = .ok (.iload_n 1, 1) := by decide +kernel
theorem d_Main_damage_33 : decode M_Main_damage.2.1 33 = .ok (.invokevirtual 108, 3) := by decide +kernel
theorem d_Main_damage_36 : decode M_Main_damage.2.1 36 = .ok (.return_, 1) := by decide +kernel
theorem d_Main_append_0 : decode M_Main_append.2.1 0 = .ok (.aload_n 0, 1) := by decide +kernel
theorem d_Main_append_1 : decode M_Main_append.2.1 1 = .ok (.getfield 14, 3) := by decide +kernel
theorem d_Main_append_4 : decode M_Main_append.2.1 4 = .ok (.aload_n 0, 1) := by decide +kernel
theorem d_Main_append_5 : decode M_Main_append.2.1 5 = .ok (.getfield 18, 3) := by decide +kernel
theorem d_Main_append_8 : decode M_Main_append.2.1 8 = .ok (.getfield 95, 3) := by decide +kernel
theorem d_Main_append_11 : decode M_Main_append.2.1 11 = .ok (.invokevirtual 83, 3) := by decide +kernel
theorem d_Main_append_14 : decode M_Main_append.2.1 14 = .ok (.ifCond .ne 13, 3) := by decide +kernel
theorem d_Main_append_17 : decode M_Main_append.2.1 17 = .ok (.new 87, 3) := by decide +kernel
theorem d_Main_append_20 : decode M_Main_append.2.1 20 = .ok (.dup, 1) := by decide +kernel
theorem d_Main_append_21 : decode M_Main_append.2.1 21 = .ok (.ldc 89, 2) := by decide +kernel
theorem d_Main_append_23 : decode M_Main_append.2.1 23 = .ok (.invokespecial 91, 3) := by decide +kernel
theorem d_Main_append_26 : decode M_Main_append.2.1 26 = .ok (.athrow, 1) := by decide +kernel
theorem d_Main_append_27 : decode M_Main_append.2.1 27 = .ok (.aload_n 0, 1) := by decide +kernel
theorem d_Main_append_28 : decode M_Main_append.2.1 28 = .ok (.getfield 14, 3) := by decide +kernel
theorem d_Main_append_31 : decode M_Main_append.2.1 31 = .ok (.aload_n 0, 1) := by decide +kernel
theorem d_Main_append_32 : decode M_Main_append.2.1 32 = .ok (.getfield 18, 3) := by decide +kernel
theorem d_Main_append_35 : decode M_Main_append.2.1 35 = .ok (.invokevirtual 111, 3) := by decide +kernel
theorem d_Main_append_38 : decode M_Main_append.2.1 38 = .ok (.aload_n 0, 1) := by decide +kernel
theorem d_Main_append_39 : decode M_Main_append.2.1 39 = .ok (.getfield 14, 3) := by decide +kernel
theorem d_Main_append_42 : decode M_Main_append.2.1 42 = .ok (.getfield 95, 3) := by decide +kernel
theorem d_Main_append_45 : decode M_Main_append.2.1 45 = .ok (.ireturn, 1) := by decide +kernel
theorem d_Main_pack_0 : decode M_Main_pack.2.1 0 = .ok (.iload_n 1, 1) := by decide +kernel
theorem d_Main_pack_1 : decode M_Main_pack.2.1 1 = .ok (.iconst 1, 1) := by decide +kernel
theorem d_Main_pack_2 : decode M_Main_pack.2.1 2 = .ok (.if_icmp .lt 9, 3) := by decide +kernel
theorem d_Main_pack_5 : decode M_Main_pack.2.1 5 = .ok (.iload_n 1, 1) := by decide +kernel
theorem d_Main_pack_6 : decode M_Main_pack.2.1 6 = .ok (.bipush 8, 2) := by decide +kernel
theorem d_Main_pack_8 : decode M_Main_pack.2.1 8 = .ok (.if_icmp .le 13, 3) := by decide +kernel
theorem d_Main_pack_11 : decode M_Main_pack.2.1 11 = .ok (.new 76, 3) := by decide +kernel
theorem d_Main_pack_14 : decode M_Main_pack.2.1 14 = .ok (.dup, 1) := by decide +kernel
theorem d_Main_pack_15 : decode M_Main_pack.2.1 15 = .ok (.ldc 114, 2) := by decide +kernel
theorem d_Main_pack_17 : decode M_Main_pack.2.1 17 = .ok (.invokespecial 80, 3) := by decide +kernel
theorem d_Main_pack_20 : decode M_Main_pack.2.1 20 = .ok (.athrow, 1) := by decide +kernel
theorem d_Main_pack_21 : decode M_Main_pack.2.1 21 = .ok (.aload_n 0, 1) := by decide +kernel
theorem d_Main_pack_22 : decode M_Main_pack.2.1 22 = .ok (.getfield 18, 3) := by decide +kernel
theorem d_Main_pack_25 : decode M_Main_pack.2.1 25 = .ok (.iconst 0, 1) := by decide +kernel
theorem d_Main_pack_26 : decode M_Main_pack.2.1 26 = .ok (.invokevirtual 100, 3) := by decide +kernel
theorem d_Main_pack_29 : decode M_Main_pack.2.1 29 = .ok (.aload_n 0, 1) := by decide +kernel
theorem d_Main_pack_30 : decode M_Main_pack.2.1 30 = .ok (.iconst 0, 1) := by decide +kernel
theorem d_Main_pack_31 : decode M_Main_pack.2.1 31 = .ok (.putfield 66, 3) := by decide +kernel
theorem d_Main_pack_34 : decode M_Main_pack.2.1 34 = .ok (.aload_n 0, 1) := by decide +kernel
theorem d_Main_pack_35 : decode M_Main_pack.2.1 35 = .ok (.getfield 52, 3) := by decide +kernel
theorem d_Main_pack_38 : decode M_Main_pack.2.1 38 = .ok (.iload_n 1, 1) := by decide +kernel
theorem d_Main_pack_39 : decode M_Main_pack.2.1 39 = .ok (.invokevirtual 116, 3) := by decide +kernel
theorem d_Main_pack_42 : decode M_Main_pack.2.1 42 = .ok (.iconst 0, 1) := by decide +kernel
theorem d_Main_pack_43 : decode M_Main_pack.2.1 43 = .ok (.istore_n 2, 1) := by decide +kernel
theorem d_Main_pack_44 : decode M_Main_pack.2.1 44 = .ok (.iconst 0, 1) := by decide +kernel
theorem d_Main_pack_45 : decode M_Main_pack.2.1 45 = .ok (.istore_n 3, 1) := by decide +kernel
theorem d_Main_pack_46 : decode M_Main_pack.2.1 46 = .ok (.iconst 0, 1) := by decide +kernel
theorem d_Main_pack_47 : decode M_Main_pack.2.1 47 = .ok (.istore 4, 2) := by decide +kernel
theorem d_Main_pack_49 : decode M_Main_pack.2.1 49 = .ok (.iload 4, 2) := by decide +kernel
theorem d_Main_pack_51 : decode M_Main_pack.2.1 51 = .ok (.sipush 400, 3) := by decide +kernel
theorem d_Main_pack_54 : decode M_Main_pack.2.1 54 = .ok (.if_icmp .ge 74, 3) := by decide +kernel
theorem d_Main_pack_57 : decode M_Main_pack.2.1 57 = .ok (.iload_n 3, 1) := by decide +kernel
theorem d_Main_pack_58 : decode M_Main_pack.2.1 58 = .ok (.aload_n 0, 1) := by decide +kernel
theorem d_Main_pack_59 : decode M_Main_pack.2.1 59 = .ok (.getfield 14, 3) := by decide +kernel
theorem d_Main_pack_62 : decode M_Main_pack.2.1 62 = .ok (.getfield 95, 3) := by decide +kernel
theorem d_Main_pack_65 : decode M_Main_pack.2.1 65 = .ok (.if_icmp .ge 63, 3) := by decide +kernel
theorem d_Main_pack_68 : decode M_Main_pack.2.1 68 = .ok (.aload_n 0, 1) := by decide +kernel
theorem d_Main_pack_69 : decode M_Main_pack.2.1 69 = .ok (.getfield 45, 3) := by decide +kernel
theorem d_Main_pack_72 : decode M_Main_pack.2.1 72 = .ok (.aload_n 0, 1) := by decide +kernel
theorem d_Main_pack_73 : decode M_Main_pack.2.1 73 = .ok (.getfield 59, 3) := by decide +kernel
theorem d_Main_pack_76 : decode M_Main_pack.2.1 76 = .ok (.aload_n 0, 1) := by decide +kernel
theorem d_Main_pack_77 : decode M_Main_pack.2.1 77 = .ok (.getfield 14, 3) := by decide +kernel
theorem d_Main_pack_80 : decode M_Main_pack.2.1 80 = .ok (.iload_n 3, 1) := by decide +kernel
theorem d_Main_pack_81 : decode M_Main_pack.2.1 81 = .ok (.bipush 8, 2) := by decide +kernel
theorem d_Main_pack_83 : decode M_Main_pack.2.1 83 = .ok (.iload_n 1, 1) := by decide +kernel
theorem d_Main_pack_84 : decode M_Main_pack.2.1 84 = .ok (.imul, 1) := by decide +kernel
theorem d_Main_pack_85 : decode M_Main_pack.2.1 85 = .ok (.invokevirtual 119, 3) := by decide +kernel
theorem d_Main_pack_88 : decode M_Main_pack.2.1 88 = .ok (.istore_n 3, 1) := by decide +kernel
theorem d_Main_pack_89 : decode M_Main_pack.2.1 89 = .ok (.aload_n 0, 1) := by decide +kernel
theorem d_Main_pack_90 : decode M_Main_pack.2.1 90 = .ok (.getfield 52, 3) := by decide +kernel
theorem d_Main_pack_93 : decode M_Main_pack.2.1 93 = .ok (.aload_n 0, 1) := by decide +kernel
theorem d_Main_pack_94 : decode M_Main_pack.2.1 94 = .ok (.getfield 59, 3) := by decide +kernel
theorem d_Main_pack_97 : decode M_Main_pack.2.1 97 = .ok (.invokevirtual 123, 3) := by decide +kernel
theorem d_Main_pack_100 : decode M_Main_pack.2.1 100 = .ok (.iload_n 2, 1) := by decide +kernel
theorem d_Main_pack_101 : decode M_Main_pack.2.1 101 = .ok (.aload_n 0, 1) := by decide +kernel
theorem d_Main_pack_102 : decode M_Main_pack.2.1 102 = .ok (.getfield 59, 3) := by decide +kernel
theorem d_Main_pack_105 : decode M_Main_pack.2.1 105 = .ok (.getfield 127, 3) := by decide +kernel
theorem d_Main_pack_108 : decode M_Main_pack.2.1 108 = .ok (.invokestatic 130, 3) := by decide +kernel
theorem d_Main_pack_111 : decode M_Main_pack.2.1 111 = .ok (.istore_n 2, 1) := by decide +kernel
theorem d_Main_pack_112 : decode M_Main_pack.2.1 112 = .ok (.aload_n 0, 1) := by decide +kernel
theorem d_Main_pack_113 : decode M_Main_pack.2.1 113 = .ok (.dup, 1) := by decide +kernel
theorem d_Main_pack_114 : decode M_Main_pack.2.1 114 = .ok (.getfield 66, 3) := by decide +kernel
theorem d_Main_pack_117 : decode M_Main_pack.2.1 117 = .ok (.iconst 1, 1) := by decide +kernel
theorem d_Main_pack_118 : decode M_Main_pack.2.1 118 = .ok (.iadd, 1) := by decide +kernel
theorem d_Main_pack_119 : decode M_Main_pack.2.1 119 = .ok (.putfield 66, 3) := by decide +kernel
theorem d_Main_pack_122 : decode M_Main_pack.2.1 122 = .ok (.iinc 4 1, 3) := by decide +kernel
theorem d_Main_pack_125 : decode M_Main_pack.2.1 125 = .ok (.goto (-76), 3) := by decide +kernel
theorem d_Main_pack_128 : decode M_Main_pack.2.1 128 = .ok (.aload_n 0, 1) := by decide +kernel
theorem d_Main_pack_129 : decode M_Main_pack.2.1 129 = .ok (.getfield 52, 3) := by decide +kernel
theorem d_Main_pack_132 : decode M_Main_pack.2.1 132 = .ok (.iload_n 2, 1) := by decide +kernel
theorem d_Main_pack_133 : decode M_Main_pack.2.1 133 = .ok (.invokevirtual 134, 3) := by decide +kernel
theorem d_Main_pack_136 : decode M_Main_pack.2.1 136 = .ok (.aload_n 0, 1) := by decide +kernel
theorem d_Main_pack_137 : decode M_Main_pack.2.1 137 = .ok (.getfield 18, 3) := by decide +kernel
theorem d_Main_pack_140 : decode M_Main_pack.2.1 140 = .ok (.getfield 95, 3) := by decide +kernel
theorem d_Main_pack_143 : decode M_Main_pack.2.1 143 = .ok (.ireturn, 1) := by decide +kernel
theorem d_Main_unpack_0 : decode M_Main_unpack.2.1 0 = .ok (.aload_n 0, 1) := by decide +kernel
theorem d_Main_unpack_1 : decode M_Main_unpack.2.1 1 = .ok (.iconst (-1), 1) := by decide +kernel
theorem d_Main_unpack_2 : decode M_Main_unpack.2.1 2 = .ok (.putfield 73, 3) := by decide +kernel
theorem d_Main_unpack_5 : decode M_Main_unpack.2.1 5 = .ok (.aload_n 0, 1) := by decide +kernel
theorem d_Main_unpack_6 : decode M_Main_unpack.2.1 6 = .ok (.iconst 0, 1) := by decide +kernel
theorem d_Main_unpack_7 : decode M_Main_unpack.2.1 7 = .ok (.putfield 70, 3) := by decide +kernel
theorem d_Main_unpack_10 : decode M_Main_unpack.2.1 10 = .ok (.aload_n 0, 1) := by decide +kernel
theorem d_Main_unpack_11 : decode M_Main_unpack.2.1 11 = .ok (.getfield 21, 3) := by decide +kernel
theorem d_Main_unpack_14 : decode M_Main_unpack.2.1 14 = .ok (.iconst 0, 1) := by decide +kernel
theorem d_Main_unpack_15 : decode M_Main_unpack.2.1 15 = .ok (.invokevirtual 100, 3) := by decide +kernel
theorem d_Main_unpack_18 : decode M_Main_unpack.2.1 18 = .ok (.aload_n 0, 1) := by decide +kernel
theorem d_Main_unpack_19 : decode M_Main_unpack.2.1 19 = .ok (.getfield 29, 3) := by decide +kernel
theorem d_Main_unpack_22 : decode M_Main_unpack.2.1 22 = .ok (.iconst 0, 1) := by decide +kernel
theorem d_Main_unpack_23 : decode M_Main_unpack.2.1 23 = .ok (.invokevirtual 137, 3) := by decide +kernel
theorem d_Main_unpack_26 : decode M_Main_unpack.2.1 26 = .ok (.aload_n 0, 1) := by decide +kernel
theorem d_Main_unpack_27 : decode M_Main_unpack.2.1 27 = .ok (.invokevirtual 140, 3) := by decide +kernel
theorem d_Main_unpack_30 : decode M_Main_unpack.2.1 30 = .ok (.istore_n 1, 1) := by decide +kernel
theorem d_Main_unpack_31 : decode M_Main_unpack.2.1 31 = .ok (.iconst 1, 1) := by decide +kernel
theorem d_Main_unpack_32 : decode M_Main_unpack.2.1 32 = .ok (.istore_n 2, 1) := by decide +kernel
theorem d_Main_unpack_33 : decode M_Main_unpack.2.1 33 = .ok (.iload_n 2, 1) := by decide +kernel
theorem d_Main_unpack_34 : decode M_Main_unpack.2.1 34 = .ok (.sipush 400, 3) := by decide +kernel
theorem d_Main_unpack_37 : decode M_Main_unpack.2.1 37 = .ok (.if_icmp .ge 28, 3) := by decide +kernel
theorem d_Main_unpack_40 : decode M_Main_unpack.2.1 40 = .ok (.iload_n 1, 1) := by decide +kernel
theorem d_Main_unpack_41 : decode M_Main_unpack.2.1 41 = .ok (.ifCond .ne 24, 3) := by decide +kernel
theorem d_Main_unpack_44 : decode M_Main_unpack.2.1 44 = .ok (.aload_n 0, 1) := by decide +kernel
theorem d_Main_unpack_45 : decode M_Main_unpack.2.1 45 = .ok (.getfield 29, 3) := by decide +kernel
theorem d_Main_unpack_48 : decode M_Main_unpack.2.1 48 = .ok (.invokevirtual 144, 3) := by decide +kernel
theorem d_Main_unpack_51 : decode M_Main_unpack.2.1 51 = .ok (.ifCond .ne 14, 3) := by decide +kernel
theorem d_Main_unpack_54 : decode M_Main_unpack.2.1 54 = .ok (.aload_n 0, 1) := by decide +kernel
theorem d_Main_unpack_55 : decode M_Main_unpack.2.1 55 = .ok (.invokevirtual 140, 3) := by decide +kernel
theorem d_Main_unpack_58 : decode M_Main_unpack.2.1 58 = .ok (.istore_n 1, 1) := by decide +kernel
theorem d_Main_unpack_59 : decode M_Main_unpack.2.1 59 = .ok (.iinc 2 1, 3) := by decide +kernel
theorem d_Main_unpack_62 : decode M_Main_unpack.2.1 62 = .ok (.goto (-29), 3) := by decide +kernel
theorem d_Main_unpack_65 : decode M_Main_unpack.2.1 65 = .ok (.iload_n 1, 1) := by decide +kernel
theorem d_Main_unpack_66 : decode M_Main_unpack.2.1 66 = .ok (.iconst 1, 1) := by decide +kernel
theorem d_Main_unpack_67 : decode M_Main_unpack.2.1 67 = .ok (.if_icmp .ne 13, 3) := by decide +kernel
theorem d_Main_unpack_70 : decode M_Main_unpack.2.1 70 = .ok (.new 148, 3) := by decide +kernel
theorem d_Main_unpack_73 : decode M_Main_unpack.2.1 73 = .ok (.dup, 1) := by decide +kernel
theorem d_Main_unpack_74 : decode M_Main_unpack.2.1 74 = .ok (.ldc 150, 2) := by decide +kernel
theorem d_Main_unpack_76 : decode M_Main_unpack.2.1 76 = .ok (.invokespecial 152, 3) := by decide +kernel
theorem d_Main_unpack_79 : decode M_Main_unpack.2.1 79 = .ok (.athrow, 1) := by decide +kernel
theorem d_Main_unpack_80 : decode M_Main_unpack.2.1 80 = .ok (.iload_n 1, 1) := by decide +kernel
theorem d_Main_unpack_81 : decode M_Main_unpack.2.1 81 = .ok (.ifCond .eq 16, 3) := by decide +kernel
theorem d_Main_unpack_84 : decode M_Main_unpack.2.1 84 = .ok (.aload_n 0, 1) := by decide +kernel
theorem d_Main_unpack_85 : decode M_Main_unpack.2.1 85 = .ok (.aload_n 0, 1) := by decide +kernel
theorem d_Main_unpack_86 : decode M_Main_unpack.2.1 86 = .ok (.getfield 29, 3) := by decide +kernel
theorem d_Main_unpack_89 : decode M_Main_unpack.2.1 89 = .ok (.getfield 153, 3) := by decide +kernel
theorem d_Main_unpack_92 : decode M_Main_unpack.2.1 92 = .ok (.putfield 73, 3) := by decide +kernel
theorem d_Main_unpack_95 : decode M_Main_unpack.2.1 95 = .ok (.iload_n 1, 1) := by decide +kernel
theorem d_Main_unpack_96 : decode M_Main_unpack.2.1 96 = .ok (.ireturn, 1) := by decide +kernel
theorem d_Main_unpack_97 : decode M_Main_unpack.2.1 97 = .ok (.aload_n 0, 1) := by decide +kernel
theorem d_Main_unpack_98 : decode M_Main_unpack.2.1 98 = .ok (.aload_n 0, 1) := by decide +kernel
theorem d_Main_unpack_99 : decode M_Main_unpack.2.1 99 = .ok (.getfield 70, 3) := by decide +kernel
theorem d_Main_unpack_102 : decode M_Main_unpack.2.1 102 = .ok (.putfield 66, 3) := by decide +kernel
theorem d_Main_unpack_105 : decode M_Main_unpack.2.1 105 = .ok (.aload_n 0, 1) := by decide +kernel
theorem d_Main_unpack_106 : decode M_Main_unpack.2.1 106 = .ok (.getfield 66, 3) := by decide +kernel
theorem d_Main_unpack_109 : decode M_Main_unpack.2.1 109 = .ok (.ifCond .le 7, 3) := by decide +kernel
theorem d_Main_unpack_112 : decode M_Main_unpack.2.1 112 = .ok (.aload_n 0, 1) := by decide +kernel
theorem d_Main_unpack_113 : decode M_Main_unpack.2.1 113 = .ok (.invokevirtual 156, 3) := by decide +kernel
theorem d_Main_unpack_116 : decode M_Main_unpack.2.1 116 = .ok (.aload_n 0, 1) := by decide +kernel
theorem d_Main_unpack_117 : decode M_Main_unpack.2.1 117 = .ok (.invokevirtual 159, 3) := by decide +kernel
theorem d_Main_unpack_120 : decode M_Main_unpack.2.1 120 = .ok (.aload_n 0, 1) := by decide +kernel
theorem d_Main_unpack_121 : decode M_Main_unpack.2.1 121 = .ok (.getfield 18, 3) := by decide +kernel
theorem d_Main_unpack_124 : decode M_Main_unpack.2.1 124 = .ok (.getfield 95, 3) := by decide +kernel
theorem d_Main_unpack_127 : decode M_Main_unpack.2.1 127 = .ok (.ireturn, 1) := by decide +kernel
theorem d_Main_at_0 : decode M_Main_at.2.1 0 = .ok (.aload_n 0, 1) := by decide +kernel
theorem d_Main_at_1 : decode M_Main_at.2.1 1 = .ok (.getfield 73, 3) := by decide +kernel
theorem d_Main_at_4 : decode M_Main_at.2.1 4 = .ok (.ireturn, 1) := by decide +kernel
theorem d_Main_rescue_0 : decode M_Main_rescue.2.1 0 = .ok (.aload_n 0, 1) := by decide +kernel
theorem d_Main_rescue_1 : decode M_Main_rescue.2.1 1 = .ok (.getfield 21, 3) := by decide +kernel
theorem d_Main_rescue_4 : decode M_Main_rescue.2.1 4 = .ok (.iconst 0, 1) := by decide +kernel
theorem d_Main_rescue_5 : decode M_Main_rescue.2.1 5 = .ok (.invokevirtual 100, 3) := by decide +kernel
theorem d_Main_rescue_8 : decode M_Main_rescue.2.1 8 = .ok (.aload_n 0, 1) := by decide +kernel
theorem d_Main_rescue_9 : decode M_Main_rescue.2.1 9 = .ok (.iconst 0, 1) := by decide +kernel
theorem d_Main_rescue_10 : decode M_Main_rescue.2.1 10 = .ok (.putfield 66, 3) := by decide +kernel
theorem d_Main_rescue_13 : decode M_Main_rescue.2.1 13 = .ok (.iconst 0, 1) := by decide +kernel
theorem d_Main_rescue_14 : decode M_Main_rescue.2.1 14 = .ok (.istore_n 1, 1) := by decide +kernel
theorem d_Main_rescue_15 : decode M_Main_rescue.2.1 15 = .ok (.iconst 0, 1) := by decide +kernel
theorem d_Main_rescue_16 : decode M_Main_rescue.2.1 16 = .ok (.istore_n 2, 1) := by decide +kernel
theorem d_Main_rescue_17 : decode M_Main_rescue.2.1 17 = .ok (.iload_n 2, 1) := by decide +kernel
theorem d_Main_rescue_18 : decode M_Main_rescue.2.1 18 = .ok (.sipush 3200, 3) := by decide +kernel
theorem d_Main_rescue_21 : decode M_Main_rescue.2.1 21 = .ok (.if_icmp .ge 75, 3) := by decide +kernel
theorem d_Main_rescue_24 : decode M_Main_rescue.2.1 24 = .ok (.aload_n 0, 1) := by decide +kernel
theorem d_Main_rescue_25 : decode M_Main_rescue.2.1 25 = .ok (.getfield 29, 3) := by decide +kernel
theorem d_Main_rescue_28 : decode M_Main_rescue.2.1 28 = .ok (.iload_n 1, 1) := by decide +kernel
theorem d_Main_rescue_29 : decode M_Main_rescue.2.1 29 = .ok (.invokevirtual 162, 3) := by decide +kernel
theorem d_Main_rescue_32 : decode M_Main_rescue.2.1 32 = .ok (.ifCond .eq 64, 3) := by decide +kernel
theorem d_Main_rescue_35 : decode M_Main_rescue.2.1 35 = .ok (.aload_n 0, 1) := by decide +kernel
theorem d_Main_rescue_36 : decode M_Main_rescue.2.1 36 = .ok (.getfield 29, 3) := by decide +kernel
theorem d_Main_rescue_39 : decode M_Main_rescue.2.1 39 = .ok (.getfield 165, 3) := by decide +kernel
theorem d_Main_rescue_42 : decode M_Main_rescue.2.1 42 = .ok (.bipush 24, 2) := by decide +kernel
theorem d_Main_rescue_44 : decode M_Main_rescue.2.1 44 = .ok (.isub, 1) := by decide +kernel
theorem d_Main_rescue_45 : decode M_Main_rescue.2.1 45 = .ok (.iconst 1, 1) := by decide +kernel
theorem d_Main_rescue_46 : decode M_Main_rescue.2.1 46 = .ok (.iadd, 1) := by decide +kernel
theorem d_Main_rescue_47 : decode M_Main_rescue.2.1 47 = .ok (.istore_n 1, 1) := by decide +kernel
theorem d_Main_rescue_48 : decode M_Main_rescue.2.1 48 = .ok (.aload_n 0, 1) := by decide +kernel
theorem d_Main_rescue_49 : decode M_Main_rescue.2.1 49 = .ok (.getfield 38, 3) := by decide +kernel
theorem d_Main_rescue_52 : decode M_Main_rescue.2.1 52 = .ok (.aload_n 0, 1) := by decide +kernel
theorem d_Main_rescue_53 : decode M_Main_rescue.2.1 53 = .ok (.getfield 63, 3) := by decide +kernel
theorem d_Main_rescue_56 : decode M_Main_rescue.2.1 56 = .ok (.bipush 64, 2) := by decide +kernel
theorem d_Main_rescue_58 : decode M_Main_rescue.2.1 58 = .ok (.aload_n 0, 1) := by decide +kernel
theorem d_Main_rescue_59 : decode M_Main_rescue.2.1 59 = .ok (.getfield 21, 3) := by decide +kernel
theorem d_Main_rescue_62 : decode M_Main_rescue.2.1 62 = .ok (.invokevirtual 168, 3) := by decide +kernel
theorem d_Main_rescue_65 : decode M_Main_rescue.2.1 65 = .ok (.ifCond .ne 25, 3) := by decide +kernel
theorem d_Main_rescue_68 : decode M_Main_rescue.2.1 68 = .ok (.aload_n 0, 1) := by decide +kernel
theorem d_Main_rescue_69 : decode M_Main_rescue.2.1 69 = .ok (.invokevirtual 156, 3) := by decide +kernel
theorem d_Main_rescue_72 : decode M_Main_rescue.2.1 72 = .ok (.aload_n 0, 1) := by decide +kernel
theorem d_Main_rescue_73 : decode M_Main_rescue.2.1 73 = .ok (.dup, 1) := by decide +kernel
theorem d_Main_rescue_74 : decode M_Main_rescue.2.1 74 = .ok (.getfield 66, 3) := by decide +kernel
theorem d_Main_rescue_77 : decode M_Main_rescue.2.1 77 = .ok (.iconst 1, 1) := by decide +kernel
theorem d_Main_rescue_78 : decode M_Main_rescue.2.1 78 = .ok (.iadd, 1) := by decide +kernel
theorem d_Main_rescue_79 : decode M_Main_rescue.2.1 79 = .ok (.putfield 66, 3) := by decide +kernel
theorem d_Main_rescue_82 : decode M_Main_rescue.2.1 82 = .ok (.aload_n 0, 1) := by decide +kernel
theorem d_Main_rescue_83 : decode M_Main_rescue.2.1 83 = .ok (.getfield 29, 3) := by decide +kernel
theorem d_Main_rescue_86 : decode M_Main_rescue.2.1 86 = .ok (.getfield 165, 3) := by decide +kernel
theorem d_Main_rescue_89 : decode M_Main_rescue.2.1 89 = .ok (.istore_n 1, 1) := by decide +kernel
theorem d_Main_rescue_90 : decode M_Main_rescue.2.1 90 = .ok (.iinc 2 1, 3) := by decide +kernel
theorem d_Main_rescue_93 : decode M_Main_rescue.2.1 93 = .ok (.goto (-76), 3) := by decide +kernel
theorem d_Main_rescue_96 : decode M_Main_rescue.2.1 96 = .ok (.aload_n 0, 1) := by decide +kernel
theorem d_Main_rescue_97 : decode M_Main_rescue.2.1 97 = .ok (.invokevirtual 159, 3) := by decide +kernel
theorem d_Main_rescue_100 : decode M_Main_rescue.2.1 100 = .ok (.aload_n 0, 1) := by decide +kernel
theorem d_Main_rescue_101 : decode M_Main_rescue.2.1 101 = .ok (.getfield 66, 3) := by decide +kernel
theorem d_Main_rescue_104 : decode M_Main_rescue.2.1 104 = .ok (.ireturn, 1) := by decide +kernel
theorem d_Main_given_0 : decode M_Main_given.2.1 0 = .ok (.aload_n 0, 1) := by decide +kernel
theorem d_Main_given_1 : decode M_Main_given.2.1 1 = .ok (.getfield 14, 3) := by decide +kernel
theorem d_Main_given_4 : decode M_Main_given.2.1 4 = .ok (.getfield 95, 3) := by decide +kernel
theorem d_Main_given_7 : decode M_Main_given.2.1 7 = .ok (.ireturn, 1) := by decide +kernel
theorem d_Main_size_0 : decode M_Main_size.2.1 0 = .ok (.aload_n 0, 1) := by decide +kernel
theorem d_Main_size_1 : decode M_Main_size.2.1 1 = .ok (.getfield 18, 3) := by decide +kernel
theorem d_Main_size_4 : decode M_Main_size.2.1 4 = .ok (.getfield 95, 3) := by decide +kernel
theorem d_Main_size_7 : decode M_Main_size.2.1 7 = .ok (.ireturn, 1) := by decide +kernel
theorem d_Main_out_0 : decode M_Main_out.2.1 0 = .ok (.iload_n 1, 1) := by decide +kernel
theorem d_Main_out_1 : decode M_Main_out.2.1 1 = .ok (.ifCond .lt 14, 3) := by decide +kernel
theorem d_Main_out_4 : decode M_Main_out.2.1 4 = .ok (.iload_n 1, 1) := by decide +kernel
theorem d_Main_out_5 : decode M_Main_out.2.1 5 = .ok (.aload_n 0, 1) := by decide +kernel
theorem d_Main_out_6 : decode M_Main_out.2.1 6 = .ok (.getfield 18, 3) := by decide +kernel
theorem d_Main_out_9 : decode M_Main_out.2.1 9 = .ok (.getfield 95, 3) := by decide +kernel
theorem d_Main_out_12 : decode M_Main_out.2.1 12 = .ok (.if_icmp .lt 13, 3) := by decide +kernel
theorem d_Main_out_15 : decode M_Main_out.2.1 15 = .ok (.new 103, 3) := by decide +kernel
theorem d_Main_out_18 : decode M_Main_out.2.1 18 = .ok (.dup, 1) := by decide +kernel
theorem d_Main_out_19 : decode M_Main_out.2.1 19 = .ok (.ldc 172, 2) := by decide +kernel
theorem d_Main_out_21 : decode M_Main_out.2.1 21 = .ok (.invokespecial 107, 3) := by decide +kernel
theorem d_Main_out_24 : decode M_Main_out.2.1 24 = .ok (.athrow, 1) := by decide +kernel
theorem d_Main_out_25 : decode M_Main_out.2.1 25 = .ok (.aload_n 0, 1) := by decide +kernel
theorem d_Main_out_26 : decode M_Main_out.2.1 26 = .ok (.getfield 18, 3) := by decide +kernel
theorem d_Main_out_29 : decode M_Main_out.2.1 29 = .ok (.iload_n 1, 1) := by decide +kernel
theorem d_Main_out_30 : decode M_Main_out.2.1 30 = .ok (.invokevirtual 174, 3) := by decide +kernel
theorem d_Main_out_33 : decode M_Main_out.2.1 33 = .ok (.ireturn, 1) := by decide +kernel
theorem d_Main_blocks_0 : decode M_Main_blocks.2.1 0 = .ok (.aload_n 0, 1) := by decide +kernel
theorem d_Main_blocks_1 : decode M_Main_blocks.2.1 1 = .ok (.getfield 66, 3) := by decide +kernel
theorem d_Main_blocks_4 : decode M_Main_blocks.2.1 4 = .ok (.ireturn, 1) := by decide +kernel
theorem d_Main_block_0 : decode M_Main_block.2.1 0 = .ok (.aload_n 0, 1) := by decide +kernel
theorem d_Main_block_1 : decode M_Main_block.2.1 1 = .ok (.getfield 66, 3) := by decide +kernel
theorem d_Main_block_4 : decode M_Main_block.2.1 4 = .ok (.ifCond .ne 5, 3) := by decide +kernel
theorem d_Main_block_7 : decode M_Main_block.2.1 7 = .ok (.iconst (-1), 1) := by decide +kernel
theorem d_Main_block_8 : decode M_Main_block.2.1 8 = .ok (.ireturn, 1) := by decide +kernel
theorem d_Main_block_9 : decode M_Main_block.2.1 9 = .ok (.iload_n 1, 1) := by decide +kernel
theorem d_Main_block_10 : decode M_Main_block.2.1 10 = .ok (.tableswitch 74 0 4 #[34, 42, 50, 58, 66], 34) := by decide +kernel
theorem d_Main_block_44 : decode M_Main_block.2.1 44 = .ok (.aload_n 0, 1) := by decide +kernel
theorem d_Main_block_45 : decode M_Main_block.2.1 45 = .ok (.getfield 59, 3) := by decide +kernel
theorem d_Main_block_48 : decode M_Main_block.2.1 48 = .ok (.getfield 178, 3) := by decide +kernel
theorem d_Main_block_51 : decode M_Main_block.2.1 51 = .ok (.ireturn, 1) := by decide +kernel
theorem d_Main_block_52 : decode M_Main_block.2.1 52 = .ok (.aload_n 0, 1) := by decide +kernel
theorem d_Main_block_53 : decode M_Main_block.2.1 53 = .ok (.getfield 59, 3) := by decide +kernel
theorem d_Main_block_56 : decode M_Main_block.2.1 56 = .ok (.getfield 181, 3) := by decide +kernel
theorem d_Main_block_59 : decode M_Main_block.2.1 59 = .ok (.ireturn, 1) := by decide +kernel
theorem d_Main_block_60 : decode M_Main_block.2.1 60 = .ok (.aload_n 0, 1) := by decide +kernel
theorem d_Main_block_61 : decode M_Main_block.2.1 61 = .ok (.getfield 59, 3) := by decide +kernel
theorem d_Main_block_64 : decode M_Main_block.2.1 64 = .ok (.getfield 182, 3) := by decide +kernel
theorem d_Main_block_67 : decode M_Main_block.2.1 67 = .ok (.ireturn, 1) := by decide +kernel
theorem d_Main_block_68 : decode M_Main_block.2.1 68 = .ok (.aload_n 0, 1) := by decide +kernel
theorem d_Main_block_69 : decode M_Main_block.2.1 69 = .ok (.getfield 59, 3) := by decide +kernel
theorem d_Main_block_72 : decode M_Main_block.2.1 72 = .ok (.getfield 185, 3) := by decide +kernel
theorem d_Main_block_75 : decode M_Main_block.2.1 75 = .ok (.ireturn, 1) := by decide +kernel
theorem d_Main_block_76 : decode M_Main_block.2.1 76 = .ok (.aload_n 0, 1) := by decide +kernel
theorem d_Main_block_77 : decode M_Main_block.2.1 77 = .ok (.getfield 59, 3) := by decide +kernel
theorem d_Main_block_80 : decode M_Main_block.2.1 80 = .ok (.getfield 127, 3) := by decide +kernel
theorem d_Main_block_83 : decode M_Main_block.2.1 83 = .ok (.ireturn, 1) := by decide +kernel
theorem d_Main_block_84 : decode M_Main_block.2.1 84 = .ok (.iconst (-1), 1) := by decide +kernel
theorem d_Main_block_85 : decode M_Main_block.2.1 85 = .ok (.ireturn, 1) := by decide +kernel
theorem d_Main_last_0 : decode M_Main_last.2.1 0 = .ok (.aload_n 0, 1) := by decide +kernel
theorem d_Main_last_1 : decode M_Main_last.2.1 1 = .ok (.getfield 66, 3) := by decide +kernel
theorem d_Main_last_4 : decode M_Main_last.2.1 4 = .ok (.ifCond .le 30, 3) := by decide +kernel
theorem d_Main_last_7 : decode M_Main_last.2.1 7 = .ok (.iload_n 1, 1) := by decide +kernel
theorem d_Main_last_8 : decode M_Main_last.2.1 8 = .ok (.ifCond .lt 26, 3) := by decide +kernel
theorem d_Main_last_11 : decode M_Main_last.2.1 11 = .ok (.iload_n 1, 1) := by decide +kernel
theorem d_Main_last_12 : decode M_Main_last.2.1 12 = .ok (.aload_n 0, 1) := by decide +kernel
theorem d_Main_last_13 : decode M_Main_last.2.1 13 = .ok (.getfield 59, 3) := by decide +kernel
theorem d_Main_last_16 : decode M_Main_last.2.1 16 = .ok (.getfield 181, 3) := by decide +kernel
theorem d_Main_last_19 : decode M_Main_last.2.1 19 = .ok (.if_icmp .ge 15, 3) := by decide +kernel
theorem d_Main_last_22 : decode M_Main_last.2.1 22 = .ok (.aload_n 0, 1) := by decide +kernel
theorem d_Main_last_23 : decode M_Main_last.2.1 23 = .ok (.getfield 59, 3) := by decide +kernel
theorem d_Main_last_26 : decode M_Main_last.2.1 26 = .ok (.getfield 188, 3) := by decide +kernel
theorem d_Main_last_29 : decode M_Main_last.2.1 29 = .ok (.iload_n 1, 1) := by decide +kernel
theorem d_Main_last_30 : decode M_Main_last.2.1 30 = .ok (.iaload, 1) := by decide +kernel
theorem d_Main_last_31 : decode M_Main_last.2.1 31 = .ok (.goto 4, 3) := by decide +kernel
theorem d_Main_last_34 : decode M_Main_last.2.1 34 = .ok (.iconst (-1), 1) := by decide +kernel
theorem d_Main_last_35 : decode M_Main_last.2.1 35 = .ok (.ireturn, 1) := by decide +kernel
theorem d_Main_symbol_0 : decode M_Main_symbol.2.1 0 = .ok (.aload_n 0, 1) := by decide +kernel
theorem d_Main_symbol_1 : decode M_Main_symbol.2.1 1 = .ok (.getfield 66, 3) := by decide +kernel
theorem d_Main_symbol_4 : decode M_Main_symbol.2.1 4 = .ok (.ifCond .le 30, 3) := by decide +kernel
theorem d_Main_symbol_7 : decode M_Main_symbol.2.1 7 = .ok (.iload_n 1, 1) := by decide +kernel
theorem d_Main_symbol_8 : decode M_Main_symbol.2.1 8 = .ok (.ifCond .lt 26, 3) := by decide +kernel
theorem d_Main_symbol_11 : decode M_Main_symbol.2.1 11 = .ok (.iload_n 1, 1) := by decide +kernel
theorem d_Main_symbol_12 : decode M_Main_symbol.2.1 12 = .ok (.aload_n 0, 1) := by decide +kernel
theorem d_Main_symbol_13 : decode M_Main_symbol.2.1 13 = .ok (.getfield 59, 3) := by decide +kernel
theorem d_Main_symbol_16 : decode M_Main_symbol.2.1 16 = .ok (.getfield 182, 3) := by decide +kernel
theorem d_Main_symbol_19 : decode M_Main_symbol.2.1 19 = .ok (.if_icmp .ge 15, 3) := by decide +kernel
theorem d_Main_symbol_22 : decode M_Main_symbol.2.1 22 = .ok (.aload_n 0, 1) := by decide +kernel
theorem d_Main_symbol_23 : decode M_Main_symbol.2.1 23 = .ok (.getfield 59, 3) := by decide +kernel
theorem d_Main_symbol_26 : decode M_Main_symbol.2.1 26 = .ok (.getfield 192, 3) := by decide +kernel
theorem d_Main_symbol_29 : decode M_Main_symbol.2.1 29 = .ok (.iload_n 1, 1) := by decide +kernel
theorem d_Main_symbol_30 : decode M_Main_symbol.2.1 30 = .ok (.iaload, 1) := by decide +kernel
theorem d_Main_symbol_31 : decode M_Main_symbol.2.1 31 = .ok (.goto 4, 3) := by decide +kernel
theorem d_Main_symbol_34 : decode M_Main_symbol.2.1 34 = .ok (.iconst (-1), 1) := by decide +kernel
theorem d_Main_symbol_35 : decode M_Main_symbol.2.1 35 = .ok (.ireturn, 1) := by decide +kernel
theorem d_Main_length_0 : decode M_Main_length.2.1 0 = .ok (.aload_n 0, 1) := by decide +kernel
theorem d_Main_length_1 : decode M_Main_length.2.1 1 = .ok (.getfield 66, 3) := by decide +kernel
theorem d_Main_length_4 : decode M_Main_length.2.1 4 = .ok (.ifCond .le 37, 3) := by decide +kernel
theorem d_Main_length_7 : decode M_Main_length.2.1 7 = .ok (.iload_n 1, 1) := by decide +kernel
theorem d_Main_length_8 : decode M_Main_length.2.1 8 = .ok (.ifCond .lt 33, 3) := by decide +kernel
theorem d_Main_length_11 : decode M_Main_length.2.1 11 = .ok (.iload_n 1, 1) := by decide +kernel
theorem d_Main_length_12 : decode M_Main_length.2.1 12 = .ok (.aload_n 0, 1) := by decide +kernel
theorem d_Main_length_13 : decode M_Main_length.2.1 13 = .ok (.getfield 59, 3) := by decide +kernel
theorem d_Main_length_16 : decode M_Main_length.2.1 16 = .ok (.getfield 185, 3) := by decide +kernel
theorem d_Main_length_19 : decode M_Main_length.2.1 19 = .ok (.if_icmp .ge 22, 3) := by decide +kernel
theorem d_Main_length_22 : decode M_Main_length.2.1 22 = .ok (.iload_n 2, 1) := by decide +kernel
theorem d_Main_length_23 : decode M_Main_length.2.1 23 = .ok (.ifCond .lt 18, 3) := by decide +kernel
theorem d_Main_length_26 : decode M_Main_length.2.1 26 = .ok (.iload_n 2, 1) := by decide +kernel
theorem d_Main_length_27 : decode M_Main_length.2.1 27 = .ok (.aload_n 0, 1) := by decide +kernel
theorem d_Main_length_28 : decode M_Main_length.2.1 28 = .ok (.getfield 59, 3) := by decide +kernel
theorem d_Main_length_31 : decode M_Main_length.2.1 31 = .ok (.invokevirtual 195, 3) := by decide +kernel
theorem d_Main_length_34 : decode M_Main_length.2.1 34 = .ok (.if_icmp .ge 7, 3) := by decide +kernel
theorem d_Main_length_37 : decode M_Main_length.2.1 37 = .ok (.iconst 1, 1) := by decide +kernel
theorem d_Main_length_38 : decode M_Main_length.2.1 38 = .ok (.goto 4, 3) := by decide +kernel
theorem d_Main_length_41 : decode M_Main_length.2.1 41 = .ok (.iconst 0, 1) := by decide +kernel
theorem d_Main_length_42 : decode M_Main_length.2.1 42 = .ok (.istore_n 3, 1) := by decide +kernel
theorem d_Main_length_43 : decode M_Main_length.2.1 43 = .ok (.iload_n 3, 1) := by decide +kernel
theorem d_Main_length_44 : decode M_Main_length.2.1 44 = .ok (.ifCond .eq 17, 3) := by decide +kernel
theorem d_Main_length_47 : decode M_Main_length.2.1 47 = .ok (.aload_n 0, 1) := by decide +kernel
theorem d_Main_length_48 : decode M_Main_length.2.1 48 = .ok (.getfield 59, 3) := by decide +kernel
theorem d_Main_length_51 : decode M_Main_length.2.1 51 = .ok (.getfield 198, 3) := by decide +kernel
theorem d_Main_length_54 : decode M_Main_length.2.1 54 = .ok (.iload_n 1, 1) := by decide +kernel
theorem d_Main_length_55 : decode M_Main_length.2.1 55 = .ok (.aaload, 1) := by decide +kernel
theorem d_Main_length_56 : decode M_Main_length.2.1 56 = .ok (.iload_n 2, 1) := by decide +kernel
theorem d_Main_length_57 : decode M_Main_length.2.1 57 = .ok (.iaload, 1) := by decide +kernel
theorem d_Main_length_58 : decode M_Main_length.2.1 58 = .ok (.goto 4, 3) := by decide +kernel
theorem d_Main_length_61 : decode M_Main_length.2.1 61 = .ok (.iconst (-1), 1) := by decide +kernel
theorem d_Main_length_62 : decode M_Main_length.2.1 62 = .ok (.ireturn, 1) := by decide +kernel
theorem d_Main_table_0 : decode M_Main_table.2.1 0 = .ok (.aload_n 0, 1) := by decide +kernel
theorem d_Main_table_1 : decode M_Main_table.2.1 1 = .ok (.getfield 66, 3) := by decide +kernel
theorem d_Main_table_4 : decode M_Main_table.2.1 4 = .ok (.ifCond .le 30, 3) := by decide +kernel
theorem d_Main_table_7 : decode M_Main_table.2.1 7 = .ok (.iload_n 1, 1) := by decide +kernel
theorem d_Main_table_8 : decode M_Main_table.2.1 8 = .ok (.ifCond .lt 26, 3) := by decide +kernel
theorem d_Main_table_11 : decode M_Main_table.2.1 11 = .ok (.iload_n 1, 1) := by decide +kernel
theorem d_Main_table_12 : decode M_Main_table.2.1 12 = .ok (.aload_n 0, 1) := by decide +kernel
theorem d_Main_table_13 : decode M_Main_table.2.1 13 = .ok (.getfield 59, 3) := by decide +kernel
theorem d_Main_table_16 : decode M_Main_table.2.1 16 = .ok (.getfield 202, 3) := by decide +kernel
theorem d_Main_table_19 : decode M_Main_table.2.1 19 = .ok (.if_icmp .ge 15, 3) := by decide +kernel
theorem d_Main_table_22 : decode M_Main_table.2.1 22 = .ok (.aload_n 0, 1) := by decide +kernel
theorem d_Main_table_23 : decode M_Main_table.2.1 23 = .ok (.getfield 59, 3) := by decide +kernel
theorem d_Main_table_26 : decode M_Main_table.2.1 26 = .ok (.getfield 205, 3) := by decide +kernel
theorem d_Main_table_29 : decode M_Main_table.2.1 29 = .ok (.iload_n 1, 1) := by decide +kernel
theorem d_Main_table_30 : decode M_Main_table.2.1 30 = .ok (.iaload, 1) := by decide +kernel
theorem d_Main_table_31 : decode M_Main_table.2.1 31 = .ok (.goto 4, 3) := by decide +kernel
theorem d_Main_table_34 : decode M_Main_table.2.1 34 = .ok (.iconst (-1), 1) := by decide +kernel
theorem d_Main_table_35 : decode M_Main_table.2.1 35 = .ok (.ireturn, 1) := by decide +kernel
theorem d_Main_readStream_0 : decode M_Main_readStream.2.1 0 = .ok (.aload_n 0, 1) := by decide +kernel
theorem d_Main_readStream_1 : decode M_Main_readStream.2.1 1 = .ok (.invokevirtual 208, 3) := by decide +kernel
theorem d_Main_readStream_4 : decode M_Main_readStream.2.1 4 = .ok (.istore_n 1, 1) := by decide +kernel
theorem d_Main_readStream_5 : decode M_Main_readStream.2.1 5 = .ok (.iload_n 1, 1) := by decide +kernel
theorem d_Main_readStream_6 : decode M_Main_readStream.2.1 6 = .ok (.ifCond .ge 5, 3) := by decide +kernel
theorem d_Main_readStream_9 : decode M_Main_readStream.2.1 9 = .ok (.iload_n 1, 1) := by decide +kernel
theorem d_Main_readStream_10 : decode M_Main_readStream.2.1 10 = .ok (.ireturn, 1) := by decide +kernel
theorem d_Main_readStream_11 : decode M_Main_readStream.2.1 11 = .ok (.iconst 0, 1) := by decide +kernel
theorem d_Main_readStream_12 : decode M_Main_readStream.2.1 12 = .ok (.istore_n 2, 1) := by decide +kernel
theorem d_Main_readStream_13 : decode M_Main_readStream.2.1 13 = .ok (.aload_n 0, 1) := by decide +kernel
theorem d_Main_readStream_14 : decode M_Main_readStream.2.1 14 = .ok (.getfield 29, 3) := by decide +kernel
theorem d_Main_readStream_17 : decode M_Main_readStream.2.1 17 = .ok (.bipush 24, 2) := by decide +kernel
theorem d_Main_readStream_19 : decode M_Main_readStream.2.1 19 = .ok (.invokevirtual 211, 3) := by decide +kernel
theorem d_Main_readStream_22 : decode M_Main_readStream.2.1 22 = .ok (.istore_n 3, 1) := by decide +kernel
theorem d_Main_readStream_23 : decode M_Main_readStream.2.1 23 = .ok (.iconst 0, 1) := by decide +kernel
theorem d_Main_readStream_24 : decode M_Main_readStream.2.1 24 = .ok (.istore 4, 2) := by decide +kernel
theorem d_Main_readStream_26 : decode M_Main_readStream.2.1 26 = .ok (.iload 4, 2) := by decide +kernel
theorem d_Main_readStream_28 : decode M_Main_readStream.2.1 28 = .ok (.sipush 3200, 3) := by decide +kernel
theorem d_Main_readStream_31 : decode M_Main_readStream.2.1 31 = .ok (.if_icmp .ge 76, 3) := by decide +kernel
theorem d_Main_readStream_34 : decode M_Main_readStream.2.1 34 = .ok (.iload_n 3, 1) := by decide +kernel
theorem d_Main_readStream_35 : decode M_Main_readStream.2.1 35 = .ok (.ldc 214, 2) := by decide +kernel
theorem d_Main_readStream_37 : decode M_Main_readStream.2.1 37 = .ok (.if_icmp .ne 70, 3) := by decide +kernel
theorem d_Main_readStream_40 : decode M_Main_readStream.2.1 40 = .ok (.aload_n 0, 1) := by decide +kernel
theorem d_Main_readStream_41 : decode M_Main_readStream.2.1 41 = .ok (.getfield 38, 3) := by decide +kernel
theorem d_Main_readStream_44 : decode M_Main_readStream.2.1 44 = .ok (.aload_n 0, 1) := by decide +kernel
theorem d_Main_readStream_45 : decode M_Main_readStream.2.1 45 = .ok (.getfield 63, 3) := by decide +kernel
theorem d_Main_readStream_48 : decode M_Main_readStream.2.1 48 = .ok (.bipush 8, 2) := by decide +kernel
theorem d_Main_readStream_50 : decode M_Main_readStream.2.1 50 = .ok (.iload_n 1, 1) := by decide +kernel
theorem d_Main_readStream_51 : decode M_Main_readStream.2.1 51 = .ok (.imul, 1) := by decide +kernel
theorem d_Main_readStream_52 : decode M_Main_readStream.2.1 52 = .ok (.aload_n 0, 1) := by decide +kernel
theorem d_Main_readStream_53 : decode M_Main_readStream.2.1 53 = .ok (.getfield 21, 3) := by decide +kernel
theorem d_Main_readStream_56 : decode M_Main_readStream.2.1 56 = .ok (.invokevirtual 168, 3) := by decide +kernel
theorem d_Main_readStream_59 : decode M_Main_readStream.2.1 59 = .ok (.istore 5, 2) := by decide +kernel
theorem d_Main_readStream_61 : decode M_Main_readStream.2.1 61 = .ok (.iload 5, 2) := by decide +kernel
theorem d_Main_readStream_63 : decode M_Main_readStream.2.1 63 = .ok (.ifCond .eq 6, 3) := by decide +kernel
theorem d_Main_readStream_66 : decode M_Main_readStream.2.1 66 = .ok (.iload 5, 2) := by decide +kernel
theorem d_Main_readStream_68 : decode M_Main_readStream.2.1 68 = .ok (.ireturn, 1) := by decide +kernel
theorem d_Main_readStream_69 : decode M_Main_readStream.2.1 69 = .ok (.iload_n 2, 1) := by decide +kernel
theorem d_Main_readStream_70 : decode M_Main_readStream.2.1 70 = .ok (.aload_n 0, 1) := by decide +kernel
theorem d_Main_readStream_71 : decode M_Main_readStream.2.1 71 = .ok (.getfield 63, 3) := by decide +kernel
theorem d_Main_readStream_74 : decode M_Main_readStream.2.1 74 = .ok (.getfield 127, 3) := by decide +kernel
theorem d_Main_readStream_77 : decode M_Main_readStream.2.1 77 = .ok (.invokestatic 130, 3) := by decide +kernel
theorem d_Main_readStream_80 : decode M_Main_readStream.2.1 80 = .ok (.istore_n 2, 1) := by decide +kernel
theorem d_Main_readStream_81 : decode M_Main_readStream.2.1 81 = .ok (.aload_n 0, 1) := by decide +kernel
theorem d_Main_readStream_82 : decode M_Main_readStream.2.1 82 = .ok (.dup, 1) := by decide +kernel
theorem d_Main_readStream_83 : decode M_Main_readStream.2.1 83 = .ok (.getfield 70, 3) := by decide +kernel
theorem d_Main_readStream_86 : decode M_Main_readStream.2.1 86 = .ok (.iconst 1, 1) := by decide +kernel
theorem d_Main_readStream_87 : decode M_Main_readStream.2.1 87 = .ok (.iadd, 1) := by decide +kernel
theorem d_Main_readStream_88 : decode M_Main_readStream.2.1 88 = .ok (.putfield 70, 3) := by decide +kernel
theorem d_Main_readStream_91 : decode M_Main_readStream.2.1 91 = .ok (.aload_n 0, 1) := by decide +kernel
theorem d_Main_readStream_92 : decode M_Main_readStream.2.1 92 = .ok (.getfield 29, 3) := by decide +kernel
theorem d_Main_readStream_95 : decode M_Main_readStream.2.1 95 = .ok (.bipush 24, 2) := by decide +kernel
theorem d_Main_readStream_97 : decode M_Main_readStream.2.1 97 = .ok (.invokevirtual 211, 3) := by decide +kernel
theorem d_Main_readStream_100 : decode M_Main_readStream.2.1 100 = .ok (.istore_n 3, 1) := by decide +kernel
theorem d_Main_readStream_101 : decode M_Main_readStream.2.1 101 = .ok (.iinc 4 1, 3) := by decide +kernel
theorem d_Main_readStream_104 : decode M_Main_readStream.2.1 104 = .ok (.goto (-78), 3) := by decide +kernel
theorem d_Main_readStream_107 : decode M_Main_readStream.2.1 107 = .ok (.iload_n 3, 1) := by decide +kernel
theorem d_Main_readStream_108 : decode M_Main_readStream.2.1 108 = .ok (.ldc 215, 2) := by decide +kernel
theorem d_Main_readStream_110 : decode M_Main_readStream.2.1 110 = .ok (.if_icmp .eq 14, 3) := by decide +kernel
theorem d_Main_readStream_113 : decode M_Main_readStream.2.1 113 = .ok (.iload_n 3, 1) := by decide +kernel
theorem d_Main_readStream_114 : decode M_Main_readStream.2.1 114 = .ok (.ifCond .ge 7, 3) := by decide +kernel
theorem d_Main_readStream_117 : decode M_Main_readStream.2.1 117 = .ok (.iload_n 3, 1) := by decide +kernel
theorem d_Main_readStream_118 : decode M_Main_readStream.2.1 118 = .ok (.goto 5, 3) := by decide +kernel
theorem d_Main_readStream_121 : decode M_Main_readStream.2.1 121 = .ok (.bipush (-4), 2) := by decide +kernel
theorem d_Main_readStream_123 : decode M_Main_readStream.2.1 123 = .ok (.ireturn, 1) := by decide +kernel
theorem d_Main_readStream_124 : decode M_Main_readStream.2.1 124 = .ok (.aload_n 0, 1) := by decide +kernel
theorem d_Main_readStream_125 : decode M_Main_readStream.2.1 125 = .ok (.iload_n 2, 1) := by decide +kernel
theorem d_Main_readStream_126 : decode M_Main_readStream.2.1 126 = .ok (.invokevirtual 216, 3) := by decide +kernel
theorem d_Main_readStream_129 : decode M_Main_readStream.2.1 129 = .ok (.ireturn, 1) := by decide +kernel
theorem d_Main_readTotal_0 : decode M_Main_readTotal.2.1 0 = .ok (.aload_n 0, 1) := by decide +kernel
theorem d_Main_readTotal_1 : decode M_Main_readTotal.2.1 1 = .ok (.getfield 29, 3) := by decide +kernel
theorem d_Main_readTotal_4 : decode M_Main_readTotal.2.1 4 = .ok (.bipush 16, 2) := by decide +kernel
theorem d_Main_readTotal_6 : decode M_Main_readTotal.2.1 6 = .ok (.invokevirtual 211, 3) := by decide +kernel
theorem d_Main_readTotal_9 : decode M_Main_readTotal.2.1 9 = .ok (.istore_n 2, 1) := by decide +kernel
theorem d_Main_readTotal_10 : decode M_Main_readTotal.2.1 10 = .ok (.iload_n 2, 1) := by decide +kernel
theorem d_Main_readTotal_11 : decode M_Main_readTotal.2.1 11 = .ok (.iload_n 1, 1) := by decide +kernel
theorem d_Main_readTotal_12 : decode M_Main_readTotal.2.1 12 = .ok (.if_icmp .eq 14, 3) := by decide +kernel
theorem d_Main_readTotal_15 : decode M_Main_readTotal.2.1 15 = .ok (.iload_n 2, 1) := by decide +kernel
theorem d_Main_readTotal_16 : decode M_Main_readTotal.2.1 16 = .ok (.ifCond .ge 7, 3) := by decide +kernel
theorem d_Main_readTotal_19 : decode M_Main_readTotal.2.1 19 = .ok (.iload_n 2, 1) := by decide +kernel
theorem d_Main_readTotal_20 : decode M_Main_readTotal.2.1 20 = .ok (.goto 5, 3) := by decide +kernel
theorem d_Main_readTotal_23 : decode M_Main_readTotal.2.1 23 = .ok (.bipush (-15), 2) := by decide +kernel
theorem d_Main_readTotal_25 : decode M_Main_readTotal.2.1 25 = .ok (.ireturn, 1) := by decide +kernel
theorem d_Main_readTotal_26 : decode M_Main_readTotal.2.1 26 = .ok (.aload_n 0, 1) := by decide +kernel
theorem d_Main_readTotal_27 : decode M_Main_readTotal.2.1 27 = .ok (.getfield 29, 3) := by decide +kernel
theorem d_Main_readTotal_30 : decode M_Main_readTotal.2.1 30 = .ok (.invokevirtual 219, 3) := by decide +kernel
theorem d_Main_readTotal_33 : decode M_Main_readTotal.2.1 33 = .ok (.iconst 0, 1) := by decide +kernel
theorem d_Main_readTotal_34 : decode M_Main_readTotal.2.1 34 = .ok (.ireturn, 1) := by decide +kernel
theorem d_Main_readHead_0 : decode M_Main_readHead.2.1 0 = .ok (.aload_n 0, 1) := by decide +kernel
theorem d_Main_readHead_1 : decode M_Main_readHead.2.1 1 = .ok (.getfield 29, 3) := by decide +kernel
theorem d_Main_readHead_4 : decode M_Main_readHead.2.1 4 = .ok (.bipush 16, 2) := by decide +kernel
theorem d_Main_readHead_6 : decode M_Main_readHead.2.1 6 = .ok (.invokevirtual 211, 3) := by decide +kernel
theorem d_Main_readHead_9 : decode M_Main_readHead.2.1 9 = .ok (.istore_n 1, 1) := by decide +kernel
theorem d_Main_readHead_10 : decode M_Main_readHead.2.1 10 = .ok (.iload_n 1, 1) := by decide +kernel
theorem d_Main_readHead_11 : decode M_Main_readHead.2.1 11 = .ok (.sipush 21314, 3) := by decide +kernel
theorem d_Main_readHead_14 : decode M_Main_readHead.2.1 14 = .ok (.if_icmp .eq 14, 3) := by decide +kernel
theorem d_Main_readHead_17 : decode M_Main_readHead.2.1 17 = .ok (.iload_n 1, 1) := by decide +kernel
theorem d_Main_readHead_18 : decode M_Main_readHead.2.1 18 = .ok (.ifCond .ge 7, 3) := by decide +kernel
theorem d_Main_readHead_21 : decode M_Main_readHead.2.1 21 = .ok (.iload_n 1, 1) := by decide +kernel
theorem d_Main_readHead_22 : decode M_Main_readHead.2.1 22 = .ok (.goto 5, 3) := by decide +kernel
theorem d_Main_readHead_25 : decode M_Main_readHead.2.1 25 = .ok (.bipush (-3), 2) := by decide +kernel
theorem d_Main_readHead_27 : decode M_Main_readHead.2.1 27 = .ok (.ireturn, 1) := by decide +kernel
theorem d_Main_readHead_28 : decode M_Main_readHead.2.1 28 = .ok (.aload_n 0, 1) := by decide +kernel
theorem d_Main_readHead_29 : decode M_Main_readHead.2.1 29 = .ok (.getfield 29, 3) := by decide +kernel
theorem d_Main_readHead_32 : decode M_Main_readHead.2.1 32 = .ok (.bipush 8, 2) := by decide +kernel
theorem d_Main_readHead_34 : decode M_Main_readHead.2.1 34 = .ok (.invokevirtual 211, 3) := by decide +kernel
theorem d_Main_readHead_37 : decode M_Main_readHead.2.1 37 = .ok (.istore_n 2, 1) := by decide +kernel
theorem d_Main_readHead_38 : decode M_Main_readHead.2.1 38 = .ok (.iload_n 2, 1) := by decide +kernel
theorem d_Main_readHead_39 : decode M_Main_readHead.2.1 39 = .ok (.ifCond .eq 9, 3) := by decide +kernel
theorem d_Main_readHead_42 : decode M_Main_readHead.2.1 42 = .ok (.iload_n 2, 1) := by decide +kernel
theorem d_Main_readHead_43 : decode M_Main_readHead.2.1 43 = .ok (.bipush 8, 2) := by decide +kernel
theorem d_Main_readHead_45 : decode M_Main_readHead.2.1 45 = .ok (.if_icmp .le 6, 3) := by decide +kernel
theorem d_Main_readHead_48 : decode M_Main_readHead.2.1 48 = .ok (.bipush (-3), 2) := by decide +kernel
theorem d_Main_readHead_50 : decode M_Main_readHead.2.1 50 = .ok (.ireturn, 1) := by decide +kernel
theorem d_Main_readHead_51 : decode M_Main_readHead.2.1 51 = .ok (.iload_n 2, 1) := by decide +kernel
theorem d_Main_readHead_52 : decode M_Main_readHead.2.1 52 = .ok (.ireturn, 1) := by decide +kernel
theorem d_Main_tellNext_0 : decode M_Main_tellNext.2.1 0 = .ok (.aload_n 0, 1) := by decide +kernel
theorem d_Main_tellNext_1 : decode M_Main_tellNext.2.1 1 = .ok (.getfield 59, 3) := by decide +kernel
theorem d_Main_tellNext_4 : decode M_Main_tellNext.2.1 4 = .ok (.astore_n 1, 1) := by decide +kernel
theorem d_Main_tellNext_5 : decode M_Main_tellNext.2.1 5 = .ok (.aload_n 0, 1) := by decide +kernel
theorem d_Main_tellNext_6 : decode M_Main_tellNext.2.1 6 = .ok (.aload_n 0, 1) := by decide +kernel
theorem d_Main_tellNext_7 : decode M_Main_tellNext.2.1 7 = .ok (.getfield 63, 3) := by decide +kernel
theorem d_Main_tellNext_10 : decode M_Main_tellNext.2.1 10 = .ok (.putfield 59, 3) := by decide +kernel
theorem d_Main_tellNext_13 : decode M_Main_tellNext.2.1 13 = .ok (.aload_n 0, 1) := by decide +kernel
theorem d_Main_tellNext_14 : decode M_Main_tellNext.2.1 14 = .ok (.aload_n 1, 1) := by decide +kernel
theorem d_Main_tellNext_15 : decode M_Main_tellNext.2.1 15 = .ok (.putfield 63, 3) := by decide +kernel
theorem d_Main_tellNext_18 : decode M_Main_tellNext.2.1 18 = .ok (.return_, 1) := by decide +kernel
theorem d_Main_takeFresh_0 : decode M_Main_takeFresh.2.1 0 = .ok (.aload_n 0, 1) := by decide +kernel
theorem d_Main_takeFresh_1 : decode M_Main_takeFresh.2.1 1 = .ok (.getfield 18, 3) := by decide +kernel
theorem d_Main_takeFresh_4 : decode M_Main_takeFresh.2.1 4 = .ok (.iconst 0, 1) := by decide +kernel
theorem d_Main_takeFresh_5 : decode M_Main_takeFresh.2.1 5 = .ok (.invokevirtual 100, 3) := by decide +kernel
theorem d_Main_takeFresh_8 : decode M_Main_takeFresh.2.1 8 = .ok (.aload_n 0, 1) := by decide +kernel
theorem d_Main_takeFresh_9 : decode M_Main_takeFresh.2.1 9 = .ok (.getfield 18, 3) := by decide +kernel
theorem d_Main_takeFresh_12 : decode M_Main_takeFresh.2.1 12 = .ok (.aload_n 0, 1) := by decide +kernel
theorem d_Main_takeFresh_13 : decode M_Main_takeFresh.2.1 13 = .ok (.getfield 21, 3) := by decide +kernel
theorem d_Main_takeFresh_16 : decode M_Main_takeFresh.2.1 16 = .ok (.invokevirtual 111, 3) := by decide +kernel
theorem d_Main_takeFresh_19 : decode M_Main_takeFresh.2.1 19 = .ok (.return_, 1) := by decide +kernel
theorem d_Main_nextTotal_0 : decode M_Main_nextTotal.2.1 0 = .ok (.iload_n 0, 1) := by decide +kernel
theorem d_Main_nextTotal_1 : decode M_Main_nextTotal.2.1 1 = .ok (.iconst 1, 1) := by decide +kernel
theorem d_Main_nextTotal_2 : decode M_Main_nextTotal.2.1 2 = .ok (.ishl, 1) := by decide +kernel
theorem d_Main_nextTotal_3 : decode M_Main_nextTotal.2.1 3 = .ok (.iload_n 0, 1) := by decide +kernel
theorem d_Main_nextTotal_4 : decode M_Main_nextTotal.2.1 4 = .ok (.bipush 15, 2) := by decide +kernel
theorem d_Main_nextTotal_6 : decode M_Main_nextTotal.2.1 6 = .ok (.iushr, 1) := by decide +kernel
theorem d_Main_nextTotal_7 : decode M_Main_nextTotal.2.1 7 = .ok (.ior, 1) := by decide +kernel
theorem d_Main_nextTotal_8 : decode M_Main_nextTotal.2.1 8 = .ok (.ldc 222, 2) := by decide +kernel
theorem d_Main_nextTotal_10 : decode M_Main_nextTotal.2.1 10 = .ok (.iand, 1) := by decide +kernel
theorem d_Main_nextTotal_11 : decode M_Main_nextTotal.2.1 11 = .ok (.iload_n 1, 1) := by decide +kernel
theorem d_Main_nextTotal_12 : decode M_Main_nextTotal.2.1 12 = .ok (.ixor, 1) := by decide +kernel
theorem d_Main_nextTotal_13 : decode M_Main_nextTotal.2.1 13 = .ok (.ireturn, 1) := by decide +kernel
theorem d_Main_mapBit_0 : decode M_Main_mapBit.2.1 0 = .ok (.iconst 1, 1) := by decide +kernel
theorem d_Main_mapBit_1 : decode M_Main_mapBit.2.1 1 = .ok (.bipush 15, 2) := by decide +kernel
theorem d_Main_mapBit_3 : decode M_Main_mapBit.2.1 3 = .ok (.iload_n 0, 1) := by decide +kernel
theorem d_Main_mapBit_4 : decode M_Main_mapBit.2.1 4 = .ok (.isub, 1) := by decide +kernel
theorem d_Main_mapBit_5 : decode M_Main_mapBit.2.1 5 = .ok (.ishl, 1) := by decide +kernel
theorem d_Main_mapBit_6 : decode M_Main_mapBit.2.1 6 = .ok (.ireturn, 1) := by decide +kernel
theorem d_Main_checkOf_0 : decode M_Main_checkOf.2.1 0 = .ok (.ldc 222, 2) := by decide +kernel
theorem d_Main_checkOf_2 : decode M_Main_checkOf.2.1 2 = .ok (.istore_n 3, 1) := by decide +kernel
theorem d_Main_checkOf_3 : decode M_Main_checkOf.2.1 3 = .ok (.iload_n 1, 1) := by decide +kernel
theorem d_Main_checkOf_4 : decode M_Main_checkOf.2.1 4 = .ok (.istore 4, 2) := by decide +kernel
theorem d_Main_checkOf_6 : decode M_Main_checkOf.2.1 6 = .ok (.iload 4, 2) := by decide +kernel
theorem d_Main_checkOf_8 : decode M_Main_checkOf.2.1 8 = .ok (.iload_n 2, 1) := by decide +kernel
theorem d_Main_checkOf_9 : decode M_Main_checkOf.2.1 9 = .ok (.if_icmp .ge 56, 3) := by decide +kernel
theorem d_Main_checkOf_12 : decode M_Main_checkOf.2.1 12 = .ok (.iload_n 3, 1) := by decide +kernel
theorem d_Main_checkOf_13 : decode M_Main_checkOf.2.1 13 = .ok (.aload_n 0, 1) := by decide +kernel
theorem d_Main_checkOf_14 : decode M_Main_checkOf.2.1 14 = .ok (.iload 4, 2) := by decide +kernel
theorem d_Main_checkOf_16 : decode M_Main_checkOf.2.1 16 = .ok (.invokevirtual 174, 3) := by decide +kernel
theorem d_Main_checkOf_19 : decode M_Main_checkOf.2.1 19 = .ok (.bipush 8, 2) := by decide +kernel
theorem d_Main_checkOf_21 : decode M_Main_checkOf.2.1 21 = .ok (.ishl, 1) := by decide +kernel
theorem d_Main_checkOf_22 : decode M_Main_checkOf.2.1 22 = .ok (.ixor, 1) := by decide +kernel
theorem d_Main_checkOf_23 : decode M_Main_checkOf.2.1 23 = .ok (.istore_n 3, 1) := by decide +kernel
theorem d_Main_checkOf_24 : decode M_Main_checkOf.2.1 24 = .ok (.iconst 0, 1) := by decide +kernel
theorem d_Main_checkOf_25 : decode M_Main_checkOf.2.1 25 = .ok (.istore 5, 2) := by decide +kernel
theorem d_Main_checkOf_27 : decode M_Main_checkOf.2.1 27 = .ok (.iload 5, 2) := by decide +kernel
theorem d_Main_checkOf_29 : decode M_Main_checkOf.2.1 29 = .ok (.bipush 8, 2) := by decide +kernel
theorem d_Main_checkOf_31 : decode M_Main_checkOf.2.1 31 = .ok (.if_icmp .ge 28, 3) := by decide +kernel
theorem d_Main_checkOf_34 : decode M_Main_checkOf.2.1 34 = .ok (.iload_n 3, 1) := by decide +kernel
theorem d_Main_checkOf_35 : decode M_Main_checkOf.2.1 35 = .ok (.iconst 1, 1) := by decide +kernel
theorem d_Main_checkOf_36 : decode M_Main_checkOf.2.1 36 = .ok (.ishl, 1) := by decide +kernel
theorem d_Main_checkOf_37 : decode M_Main_checkOf.2.1 37 = .ok (.istore_n 3, 1) := by decide +kernel
theorem d_Main_checkOf_38 : decode M_Main_checkOf.2.1 38 = .ok (.iload_n 3, 1) := by decide +kernel
theorem d_Main_checkOf_39 : decode M_Main_checkOf.2.1 39 = .ok (.ldc 222, 2) := by decide +kernel
theorem d_Main_checkOf_41 : decode M_Main_checkOf.2.1 41 = .ok (.if_icmp .le 12, 3) := by decide +kernel
theorem d_Main_checkOf_44 : decode M_Main_checkOf.2.1 44 = .ok (.iload_n 3, 1) := by decide +kernel
theorem d_Main_checkOf_45 : decode M_Main_checkOf.2.1 45 = .ok (.ldc 222, 2) := by decide +kernel
theorem d_Main_checkOf_47 : decode M_Main_checkOf.2.1 47 = .ok (.iand, 1) := by decide +kernel
theorem d_Main_checkOf_48 : decode M_Main_checkOf.2.1 48 = .ok (.sipush 4129, 3) := by decide +kernel
theorem d_Main_checkOf_51 : decode M_Main_checkOf.2.1 51 = .ok (.ixor, 1) := by decide +kernel
theorem d_Main_checkOf_52 : decode M_Main_checkOf.2.1 52 = .ok (.istore_n 3, 1) := by decide +kernel
theorem d_Main_checkOf_53 : decode M_Main_checkOf.2.1 53 = .ok (.iinc 5 1, 3) := by decide +kernel
theorem d_Main_checkOf_56 : decode M_Main_checkOf.2.1 56 = .ok (.goto (-29), 3) := by decide +kernel
theorem d_Main_checkOf_59 : decode M_Main_checkOf.2.1 59 = .ok (.iinc 4 1, 3) := by decide +kernel
theorem d_Main_checkOf_62 : decode M_Main_checkOf.2.1 62 = .ok (.goto (-56), 3) := by decide +kernel
theorem d_Main_checkOf_65 : decode M_Main_checkOf.2.1 65 = .ok (.iload_n 3, 1) := by decide +kernel
theorem d_Main_checkOf_66 : decode M_Main_checkOf.2.1 66 = .ok (.ireturn, 1) := by decide +kernel
theorem d_Mod_init_0 : decode M_Mod_init.2.1 0 = .ok (.aload_n 0, 1) := by decide +kernel
theorem d_Mod_init_1 : decode M_Mod_init.2.1 1 = .ok (.invokespecial 1, 3) := by decide +kernel
theorem d_Mod_init_4 : decode M_Mod_init.2.1 4 = .ok (.aload_n 0, 1) := by decide +kernel
theorem d_Mod_init_5 : decode M_Mod_init.2.1 5 = .ok (.sipush 400, 3) := by decide +kernel
theorem d_Mod_init_8 : decode M_Mod_init.2.1 8 = .ok (.newarray .int, 2) := by decide +kernel
theorem d_Mod_init_10 : decode M_Mod_init.2.1 10 = .ok (.putfield 7, 3) := by decide +kernel
theorem d_Mod_init_13 : decode M_Mod_init.2.1 13 = .ok (.aload_n 0, 1) := by decide +kernel
theorem d_Mod_init_14 : decode M_Mod_init.2.1 14 = .ok (.sipush 8000, 3) := by decide +kernel
theorem d_Mod_init_17 : decode M_Mod_init.2.1 17 = .ok (.newarray .int, 2) := by decide +kernel
theorem d_Mod_init_19 : decode M_Mod_init.2.1 19 = .ok (.putfield 13, 3) := by decide +kernel
theorem d_Mod_init_22 : decode M_Mod_init.2.1 22 = .ok (.aload_n 0, 1) := by decide +kernel
theorem d_Mod_init_23 : decode M_Mod_init.2.1 23 = .ok (.sipush 8000, 3) := by decide +kernel
theorem d_Mod_init_26 : decode M_Mod_init.2.1 26 = .ok (.newarray .int, 2) := by decide +kernel
theorem d_Mod_init_28 : decode M_Mod_init.2.1 28 = .ok (.putfield 16, 3) := by decide +kernel
theorem d_Mod_init_31 : decode M_Mod_init.2.1 31 = .ok (.aload_n 0, 1) := by decide +kernel
theorem d_Mod_init_32 : decode M_Mod_init.2.1 32 = .ok (.iconst (-1), 1) := by decide +kernel
theorem d_Mod_init_33 : decode M_Mod_init.2.1 33 = .ok (.putfield 19, 3) := by decide +kernel
theorem d_Mod_init_36 : decode M_Mod_init.2.1 36 = .ok (.aload_n 0, 1) := by decide +kernel
theorem d_Mod_init_37 : decode M_Mod_init.2.1 37 = .ok (.sipush 3600, 3) := by decide +kernel
theorem d_Mod_init_40 : decode M_Mod_init.2.1 40 = .ok (.newarray .int, 2) := by decide +kernel
theorem d_Mod_init_42 : decode M_Mod_init.2.1 42 = .ok (.putfield 23, 3) := by decide +kernel
theorem d_Mod_init_45 : decode M_Mod_init.2.1 45 = .ok (.aload_n 0, 1) := by decide +kernel
theorem d_Mod_init_46 : decode M_Mod_init.2.1 46 = .ok (.bipush 80, 2) := by decide +kernel
theorem d_Mod_init_48 : decode M_Mod_init.2.1 48 = .ok (.newarray .int, 2) := by decide +kernel
theorem d_Mod_init_50 : decode M_Mod_init.2.1 50 = .ok (.putfield 26, 3) := by decide +kernel
theorem d_Mod_init_53 : decode M_Mod_init.2.1 53 = .ok (.aload_n 0, 1) := by decide +kernel
theorem d_Mod_init_54 : decode M_Mod_init.2.1 54 = .ok (.bipush 80, 2) := by decide +kernel
theorem d_Mod_init_56 : decode M_Mod_init.2.1 56 = .ok (.newarray .int, 2) := by decide +kernel
theorem d_Mod_init_58 : decode M_Mod_init.2.1 58 = .ok (.putfield 29, 3) := by decide +kernel
theorem d_Mod_init_61 : decode M_Mod_init.2.1 61 = .ok (.aload_n 0, 1) := by decide +kernel
theorem d_Mod_init_62 : decode M_Mod_init.2.1 62 = .ok (.bipush 80, 2) := by decide +kernel
theorem d_Mod_init_64 : decode M_Mod_init.2.1 64 = .ok (.newarray .int, 2) := by decide +kernel
theorem d_Mod_init_66 : decode M_Mod_init.2.1 66 = .ok (.putfield 32, 3) := by decide +kernel
theorem d_Mod_init_69 : decode M_Mod_init.2.1 69 = .ok (.aload_n 0, 1) := by decide +kernel
theorem d_Mod_init_70 : decode M_Mod_init.2.1 70 = .ok (.sipush 256, 3) := by decide +kernel
theorem d_Mod_init_73 : decode M_Mod_init.2.1 73 = .ok (.newarray .boolean, 2) := by decide +kernel
theorem d_Mod_init_75 : decode M_Mod_init.2.1 75 = .ok (.putfield 35, 3) := by decide +kernel
theorem d_Mod_init_78 : decode M_Mod_init.2.1 78 = .ok (.aload_n 0, 1) := by decide +kernel
theorem d_Mod_init_79 : decode M_Mod_init.2.1 79 = .ok (.sipush 256, 3) := by decide +kernel
theorem d_Mod_init_82 : decode M_Mod_init.2.1 82 = .ok (.newarray .int, 2) := by decide +kernel
theorem d_Mod_init_84 : decode M_Mod_init.2.1 84 = .ok (.putfield 39, 3) := by decide +kernel
theorem d_Mod_init_87 : decode M_Mod_init.2.1 87 = .ok (.aload_n 0, 1) := by decide +kernel
theorem d_Mod_init_88 : decode M_Mod_init.2.1 88 = .ok (.sipush 1040, 3) := by decide +kernel
theorem d_Mod_init_91 : decode M_Mod_init.2.1 91 = .ok (.newarray .int, 2) := by decide +kernel
theorem d_Mod_init_93 : decode M_Mod_init.2.1 93 = .ok (.putfield 42, 3) := by decide +kernel
theorem d_Mod_init_96 : decode M_Mod_init.2.1 96 = .ok (.aload_n 0, 1) := by decide +kernel
theorem d_Mod_init_97 : decode M_Mod_init.2.1 97 = .ok (.sipush 1040, 3) := by decide +kernel
theorem d_Mod_init_100 : decode M_Mod_init.2.1 100 = .ok (.newarray .int, 2) := by decide +kernel
theorem d_Mod_init_102 : decode M_Mod_init.2.1 102 = .ok (.putfield 45, 3) := by decide +kernel
theorem d_Mod_init_105 : decode M_Mod_init.2.1 105 = .ok (.aload_n 0, 1) := by decide +kernel
theorem d_Mod_init_106 : decode M_Mod_init.2.1 106 = .ok (.bipush 64, 2) := by decide +kernel
theorem d_Mod_init_108 : decode M_Mod_init.2.1 108 = .ok (.newarray .int, 2) := by decide +kernel
theorem d_Mod_init_110 : decode M_Mod_init.2.1 110 = .ok (.putfield 48, 3) := by decide +kernel
theorem d_Mod_init_113 : decode M_Mod_init.2.1 113 = .ok (.aload_n 0, 1) := by decide +kernel
theorem d_Mod_init_114 : decode M_Mod_init.2.1 114 = .ok (.iconst 4, 1) := by decide +kernel
theorem d_Mod_init_115 : decode M_Mod_init.2.1 115 = .ok (.newarray .int, 2) := by decide +kernel
theorem d_Mod_init_117 : decode M_Mod_init.2.1 117 = .ok (.putfield 51, 3) := by decide +kernel
theorem d_Mod_init_120 : decode M_Mod_init.2.1 120 = .ok (.aload_n 0, 1) := by decide +kernel
theorem d_Mod_init_121 : decode M_Mod_init.2.1 121 = .ok (.bipush 80, 2) := by decide +kernel
theorem d_Mod_init_123 : decode M_Mod_init.2.1 123 = .ok (.newarray .int, 2) := by decide +kernel
theorem d_Mod_init_125 : decode M_Mod_init.2.1 125 = .ok (.putfield 54, 3) := by decide +kernel
theorem d_Mod_init_128 : decode M_Mod_init.2.1 128 = .ok (.aload_n 0, 1) := by decide +kernel
theorem d_Mod_init_129 : decode M_Mod_init.2.1 129 = .ok (.sipush 520, 3) := by decide +kernel
theorem d_Mod_init_132 : decode M_Mod_init.2.1 132 = .ok (.newarray .int, 2) := by decide +kernel
theorem d_Mod_init_134 : decode M_Mod_init.2.1 134 = .ok (.putfield 57, 3) := by decide +kernel
theorem d_Mod_init_137 : decode M_Mod_init.2.1 137 = .ok (.aload_n 0, 1) := by decide +kernel
theorem d_Mod_init_138 : decode M_Mod_init.2.1 138 = .ok (.sipush 520, 3) := by decide +kernel
theorem d_Mod_init_141 : decode M_Mod_init.2.1 141 = .ok (.newarray .int, 2) := by decide +kernel
theorem d_Mod_init_143 : decode M_Mod_init.2.1 143 = .ok (.putfield 60, 3) := by decide +kernel
theorem d_Mod_init_146 : decode M_Mod_init.2.1 146 = .ok (.aload_n 0, 1) := by decide +kernel
theorem d_Mod_init_147 : decode M_Mod_init.2.1 147 = .ok (.bipush 80, 2) := by decide +kernel
theorem d_Mod_init_149 : decode M_Mod_init.2.1 149 = .ok (.newarray .int, 2) := by decide +kernel
theorem d_Mod_init_151 : decode M_Mod_init.2.1 151 = .ok (.putfield 63, 3) := by decide +kernel
theorem d_Mod_init_154 : decode M_Mod_init.2.1 154 = .ok (.aload_n 0, 1) := by decide +kernel
theorem d_Mod_init_155 : decode M_Mod_init.2.1 155 = .ok (.bipush 80, 2) := by decide +kernel
theorem d_Mod_init_157 : decode M_Mod_init.2.1 157 = .ok (.newarray .int, 2) := by decide +kernel
theorem d_Mod_init_159 : decode M_Mod_init.2.1 159 = .ok (.putfield 66, 3) := by decide +kernel
theorem d_Mod_init_162 : decode M_Mod_init.2.1 162 = .ok (.aload_n 0, 1) := by decide +kernel
theorem d_Mod_init_163 : decode M_Mod_init.2.1 163 = .ok (.sipush 1040, 3) := by decide +kernel
theorem d_Mod_init_166 : decode M_Mod_init.2.1 166 = .ok (.newarray .int, 2) := by decide +kernel
theorem d_Mod_init_168 : decode M_Mod_init.2.1 168 = .ok (.putfield 69, 3) := by decide +kernel
theorem d_Mod_init_171 : decode M_Mod_init.2.1 171 = .ok (.aload_n 0, 1) := by decide +kernel
theorem d_Mod_init_172 : decode M_Mod_init.2.1 172 = .ok (.bipush 64, 2) := by decide +kernel
theorem d_Mod_init_174 : decode M_Mod_init.2.1 174 = .ok (.newarray .int, 2) := by decide +kernel
theorem d_Mod_init_176 : decode M_Mod_init.2.1 176 = .ok (.putfield 72, 3) := by decide +kernel
theorem d_Mod_init_179 : decode M_Mod_init.2.1 179 = .ok (.return_, 1) := by decide +kernel
theorem d_Mod_thrown_0 : decode M_Mod_thrown.2.1 0 = .ok (.aload_n 0, 1) := by decide +kernel
theorem d_Mod_thrown_1 : decode M_Mod_thrown.2.1 1 = .ok (.getfield 75, 3) := by decide +kernel
theorem d_Mod_thrown_4 : decode M_Mod_thrown.2.1 4 = .ok (.ireturn, 1) := by decide +kernel
theorem d_Mod_feed_0 : decode M_Mod_feed.2.1 0 = .ok (.aload_n 0, 1) := by decide +kernel
theorem d_Mod_feed_1 : decode M_Mod_feed.2.1 1 = .ok (.iload_n 3, 1) := by decide +kernel
theorem d_Mod_feed_2 : decode M_Mod_feed.2.1 2 = .ok (.iconst 1, 1) := by decide +kernel
theorem d_Mod_feed_3 : decode M_Mod_feed.2.1 3 = .ok (.if_icmp .lt 9, 3) := by decide +kernel
theorem d_Mod_feed_6 : decode M_Mod_feed.2.1 6 = .ok (.iload_n 3, 1) := by decide +kernel
theorem d_Mod_feed_7 : decode M_Mod_feed.2.1 7 = .ok (.bipush 8, 2) := by decide +kernel
theorem d_Mod_feed_9 : decode M_Mod_feed.2.1 9 = .ok (.if_icmp .le 7, 3) := by decide +kernel
theorem d_Mod_feed_12 : decode M_Mod_feed.2.1 12 = .ok (.iconst 1, 1) := by decide +kernel
theorem d_Mod_feed_13 : decode M_Mod_feed.2.1 13 = .ok (.goto 20, 3) := by decide +kernel
theorem d_Mod_feed_16 : decode M_Mod_feed.2.1 16 = .ok (.aload_n 0, 1) := by decide +kernel
theorem d_Mod_feed_17 : decode M_Mod_feed.2.1 17 = .ok (.getfield 78, 3) := by decide +kernel
theorem d_Mod_feed_20 : decode M_Mod_feed.2.1 20 = .ok (.iload_n 3, 1) := by decide +kernel
theorem d_Mod_feed_21 : decode M_Mod_feed.2.1 21 = .ok (.iadd, 1) := by decide +kernel
theorem d_Mod_feed_22 : decode M_Mod_feed.2.1 22 = .ok (.sipush 400, 3) := by decide +kernel
theorem d_Mod_feed_25 : decode M_Mod_feed.2.1 25 = .ok (.if_icmp .le 7, 3) := by decide +kernel
theorem d_Mod_feed_28 : decode M_Mod_feed.2.1 28 = .ok (.iconst 2, 1) := by decide +kernel
theorem d_Mod_feed_29 : decode M_Mod_feed.2.1 29 = .ok (.goto 4, 3) := by decide +kernel
theorem d_Mod_feed_32 : decode M_Mod_feed.2.1 32 = .ok (.iconst 0, 1) := by decide +kernel
theorem d_Mod_feed_33 : decode M_Mod_feed.2.1 33 = .ok (.putfield 75, 3) := by decide +kernel
theorem d_Mod_feed_36 : decode M_Mod_feed.2.1 36 = .ok (.aload_n 0, 1) := by decide +kernel
theorem d_Mod_feed_37 : decode M_Mod_feed.2.1 37 = .ok (.getfield 75, 3) := by decide +kernel
theorem d_Mod_feed_40 : decode M_Mod_feed.2.1 40 = .ok (.ifCond .eq 5, 3) := by decide +kernel
theorem d_Mod_feed_43 : decode M_Mod_feed.2.1 43 = .ok (.iconst 0, 1) := by decide +kernel
theorem d_Mod_feed_44 : decode M_Mod_feed.2.1 44 = .ok (.ireturn, 1) := by decide +kernel
theorem d_Mod_feed_45 : decode M_Mod_feed.2.1 45 = .ok (.iload_n 3, 1) := by decide +kernel
theorem d_Mod_feed_46 : decode M_Mod_feed.2.1 46 = .ok (.iconst 1, 1) := by decide +kernel
theorem d_Mod_feed_47 : decode M_Mod_feed.2.1 47 = .ok (.isub, 1) := by decide +kernel
theorem d_Mod_feed_48 : decode M_Mod_feed.2.1 48 = .ok (.istore 4, 2) := by decide +kernel
theorem d_Mod_feed_50 : decode M_Mod_feed.2.1 50 = .ok (.iload 4, 2) := by decide +kernel
theorem d_Mod_feed_52 : decode M_Mod_feed.2.1 52 = .ok (.ifCond .lt 40, 3) := by decide +kernel
theorem d_Mod_feed_55 : decode M_Mod_feed.2.1 55 = .ok (.aload_n 0, 1) := by decide +kernel
theorem d_Mod_feed_56 : decode M_Mod_feed.2.1 56 = .ok (.getfield 7, 3) := by decide +kernel
theorem d_Mod_feed_59 : decode M_Mod_feed.2.1 59 = .ok (.aload_n 0, 1) := by decide +kernel
theorem d_Mod_feed_60 : decode M_Mod_feed.2.1 60 = .ok (.getfield 78, 3) := by decide +kernel
theorem d_Mod_feed_63 : decode M_Mod_feed.2.1 63 = .ok (.lload_n 1, 1) := by decide +kernel
theorem d_Mod_feed_64 : decode M_Mod_feed.2.1 64 = .ok (.bipush 8, 2) := by decide +kernel
theorem d_Mod_feed_66 : decode M_Mod_feed.2.1 66 = .ok (.iload 4, 2) := by decide +kernel
theorem d_Mod_feed_68 : decode M_Mod_feed.2.1 68 = .ok (.imul, 1) := by decide +kernel
theorem d_Mod_feed_69 : decode M_Mod_feed.2.1 69 = .ok (.lushr, 1) := by decide +kernel
theorem d_Mod_feed_70 : decode M_Mod_feed.2.1 70 = .ok (.ldc2_w 81, 3) := by decide +kernel
theorem d_Mod_feed_73 : decode M_Mod_feed.2.1 73 = .ok (.land, 1) := by decide +kernel
theorem d_Mod_feed_74 : decode M_Mod_feed.2.1 74 = .ok (.l2i, 1) := by decide +kernel
theorem d_Mod_feed_75 : decode M_Mod_feed.2.1 75 = .ok (.iastore, 1) := by decide +kernel
theorem d_Mod_feed_76 : decode M_Mod_feed.2.1 76 = .ok (.aload_n 0, 1) := by decide +kernel
theorem d_Mod_feed_77 : decode M_Mod_feed.2.1 77 = .ok (.dup, 1) := by decide +kernel
theorem d_Mod_feed_78 : decode M_Mod_feed.2.1 78 = .ok (.getfield 78, 3) := by decide +kernel
theorem d_Mod_feed_81 : decode M_Mod_feed.2.1 81 = .ok (.iconst 1, 1) := by decide +kernel
theorem d_Mod_feed_82 : decode M_Mod_feed.2.1 82 = .ok (.iadd, 1) := by decide +kernel
theorem d_Mod_feed_83 : decode M_Mod_feed.2.1 83 = .ok (.putfield 78, 3) := by decide +kernel
theorem d_Mod_feed_86 : decode M_Mod_feed.2.1 86 = .ok (.iinc 4 (-1), 3) := by decide +kernel
theorem d_Mod_feed_89 : decode M_Mod_feed.2.1 89 = .ok (.goto (-39), 3) := by decide +kernel
theorem d_Mod_feed_92 : decode M_Mod_feed.2.1 92 = .ok (.aload_n 0, 1) := by decide +kernel
theorem d_Mod_feed_93 : decode M_Mod_feed.2.1 93 = .ok (.getfield 78, 3) := by decide +kernel
theorem d_Mod_feed_96 : decode M_Mod_feed.2.1 96 = .ok (.ireturn, 1) := by decide +kernel
theorem d_Mod_keep_0 : decode M_Mod_keep.2.1 0 = .ok (.aload_n 0, 1) := by decide +kernel
theorem d_Mod_keep_1 : decode M_Mod_keep.2.1 1 = .ok (.iload_n 1, 1) := by decide +kernel
theorem d_Mod_keep_2 : decode M_Mod_keep.2.1 2 = .ok (.ifCond .lt 11, 3) := by decide +kernel
theorem d_Mod_keep_5 : decode M_Mod_keep.2.1 5 = .ok (.iload_n 1, 1) := by decide +kernel
theorem d_Mod_keep_6 : decode M_Mod_keep.2.1 6 = .ok (.aload_n 0, 1) := by decide +kernel
theorem d_Mod_keep_7 : decode M_Mod_keep.2.1 7 = .ok (.getfield 78, 3) := by decide +kernel
theorem d_Mod_keep_10 : decode M_Mod_keep.2.1 10 = .ok (.if_icmp .le 7, 3) := by decide +kernel
theorem d_Mod_keep_13 : decode M_Mod_keep.2.1 13 = .ok (.iconst 1, 1) := by decide +kernel
theorem d_Mod_keep_14 : decode M_Mod_keep.2.1 14 = .ok (.goto 4, 3) := by decide +kernel
theorem d_Mod_keep_17 : decode M_Mod_keep.2.1 17 = .ok (.iconst 0, 1) := by decide +kernel
theorem d_Mod_keep_18 : decode M_Mod_keep.2.1 18 = .ok (.putfield 75, 3) := by decide +kernel
theorem d_Mod_keep_21 : decode M_Mod_keep.2.1 21 = .ok (.aload_n 0, 1) := by decide +kernel
theorem d_Mod_keep_22 : decode M_Mod_keep.2.1 22 = .ok (.aload_n 0, 1) := by decide +kernel
theorem d_Mod_keep_23 : decode M_Mod_keep.2.1 23 = .ok (.getfield 75, 3) := by decide +kernel
theorem d_Mod_keep_26 : decode M_Mod_keep.2.1 26 = .ok (.ifCond .ne 7, 3) := by decide +kernel
theorem d_Mod_keep_29 : decode M_Mod_keep.2.1 29 = .ok (.iload_n 1, 1) := by decide +kernel
theorem d_Mod_keep_30 : decode M_Mod_keep.2.1 30 = .ok (.goto 7, 3) := by decide +kernel
theorem d_Mod_keep_33 : decode M_Mod_keep.2.1 33 = .ok (.aload_n 0, 1) := by decide +kernel
theorem d_Mod_keep_34 : decode M_Mod_keep.2.1 34 = .ok (.getfield 78, 3) := by decide +kernel
theorem d_Mod_keep_37 : decode M_Mod_keep.2.1 37 = .ok (.putfield 78, 3) := by decide +kernel
theorem d_Mod_keep_40 : decode M_Mod_keep.2.1 40 = .ok (.return_, 1) := by decide +kernel
theorem d_Mod_damage_0 : decode M_Mod_damage.2.1 0 = .ok (.aload_n 0, 1) := by decide +kernel
theorem d_Mod_damage_1 : decode M_Mod_damage.2.1 1 = .ok (.iload_n 1, 1) := by decide +kernel
theorem d_Mod_damage_2 : decode M_Mod_damage.2.1 2 = .ok (.ifCond .lt 14, 3) := by decide +kernel
theorem d_Mod_damage_5 : decode M_Mod_damage.2.1 5 = .ok (.iload_n 1, 1) := by decide +kernel
theorem d_Mod_damage_6 : decode M_Mod_damage.2.1 6 = .ok (.bipush 8, 2) := by decide +kernel
theorem d_Mod_damage_8 : decode M_Mod_damage.2.1 8 = .ok (.aload_n 0, 1) := by decide +kernel
theorem d_Mod_damage_9 : decode M_Mod_damage.2.1 9 = .ok (.getfield 78, 3) := by decide +kernel
theorem d_Mod_damage_12 : decode M_Mod_damage.2.1 12 = .ok (.imul, 1) := by decide +kernel
theorem d_Mod_damage_13 : decode M_Mod_damage.2.1 13 = .ok (.if_icmp .lt 7, 3) := by decide +kernel
theorem d_Mod_damage_16 : decode M_Mod_damage.2.1 16 = .ok (.iconst 1, 1) := by decide +kernel
theorem d_Mod_damage_17 : decode M_Mod_damage.2.1 17 = .ok (.goto 4, 3) := by decide +kernel
theorem d_Mod_damage_20 : decode M_Mod_damage.2.1 20 = .ok (.iconst 0, 1) := by decide +kernel
theorem d_Mod_damage_21 : decode M_Mod_damage.2.1 21 = .ok (.putfield 75, 3) := by decide +kernel
theorem d_Mod_damage_24 : decode M_Mod_damage.2.1 24 = .ok (.aload_n 0, 1) := by decide +kernel
theorem d_Mod_damage_25 : decode M_Mod_damage.2.1 25 = .ok (.getfield 75, 3) := by decide +kernel
theorem d_Mod_damage_28 : decode M_Mod_damage.2.1 28 = .ok (.ifCond .ne 23, 3) := by decide +kernel
theorem d_Mod_damage_31 : decode M_Mod_damage.2.1 31 = .ok (.aload_n 0, 1) := by decide +kernel
theorem d_Mod_damage_32 : decode M_Mod_damage.2.1 32 = .ok (.getfield 7, 3) := by decide +kernel
theorem d_Mod_damage_35 : decode M_Mod_damage.2.1 35 = .ok (.iload_n 1, 1) := by decide +kernel
theorem d_Mod_damage_36 : decode M_Mod_damage.2.1 36 = .ok (.bipush 8, 2) := by decide +kernel
theorem d_Mod_damage_38 : decode M_Mod_damage.2.1 38 = .ok (.idiv, 1) := by decide +kernel
theorem d_Mod_damage_39 : decode M_Mod_damage.2.1 39 = .ok (.dup2, 1) := by decide +kernel
theorem d_Mod_damage_40 : decode M_Mod_damage.2.1 40 = .ok (.iaload, 1) := by decide +kernel
theorem d_Mod_damage_41 : decode M_Mod_damage.2.1 41 = .ok (.sipush 128, 3) := by decide +kernel
theorem d_Mod_damage_44 : decode M_Mod_damage.2.1 44 = .ok (.iload_n 1, 1) := by decide +kernel
theorem d_Mod_damage_45 : decode M_Mod_damage.2.1 45 = .ok (.bipush 8, 2) := by decide +kernel
theorem d_Mod_damage_47 : decode M_Mod_damage.2.1 47 = .ok (.irem, 1) := by decide +kernel
theorem d_Mod_damage_48 : decode M_Mod_damage.2.1 48 = .ok (.ishr, 1) := by decide +kernel
theorem d_Mod_damage_49 : decode M_Mod_damage.2.1 49 = .ok (.ixor, 1) := by decide +kernel
theorem d_Mod_damage_50 : decode M_Mod_damage.2.1 50 = .ok (.iastore, 1) := by decide +kernel
theorem d_Mod_damage_51 : decode M_Mod_damage.2.1 51 = .ok (.return_, 1) := by decide +kernel
theorem d_Mod_append_0 : decode M_Mod_append.2.1 0 = .ok (.aload_n 0, 1) := by decide +kernel
theorem d_Mod_append_1 : decode M_Mod_append.2.1 1 = .ok (.aload_n 0, 1) := by decide +kernel
theorem d_Mod_append_2 : decode M_Mod_append.2.1 2 = .ok (.getfield 78, 3) := by decide +kernel
theorem d_Mod_append_5 : decode M_Mod_append.2.1 5 = .ok (.aload_n 0, 1) := by decide +kernel
theorem d_Mod_append_6 : decode M_Mod_append.2.1 6 = .ok (.getfield 83, 3) := by decide +kernel
theorem d_Mod_append_9 : decode M_Mod_append.2.1 9 = .ok (.iadd, 1) := by decide +kernel
theorem d_Mod_append_10 : decode M_Mod_append.2.1 10 = .ok (.sipush 400, 3) := by decide +kernel
theorem d_Mod_append_13 : decode M_Mod_append.2.1 13 = .ok (.if_icmp .le 7, 3) := by decide +kernel
theorem d_Mod_append_16 : decode M_Mod_append.2.1 16 = .ok (.iconst 1, 1) := by decide +kernel
theorem d_Mod_append_17 : decode M_Mod_append.2.1 17 = .ok (.goto 4, 3) := by decide +kernel
theorem d_Mod_append_20 : decode M_Mod_append.2.1 20 = .ok (.iconst 0, 1) := by decide +kernel
theorem d_Mod_append_21 : decode M_Mod_append.2.1 21 = .ok (.putfield 75, 3) := by decide +kernel
theorem d_Mod_append_24 : decode M_Mod_append.2.1 24 = .ok (.aload_n 0, 1) := by decide +kernel
theorem d_Mod_append_25 : decode M_Mod_append.2.1 25 = .ok (.getfield 75, 3) := by decide +kernel
theorem d_Mod_append_28 : decode M_Mod_append.2.1 28 = .ok (.ifCond .eq 5, 3) := by decide +kernel
theorem d_Mod_append_31 : decode M_Mod_append.2.1 31 = .ok (.iconst 0, 1) := by decide +kernel
theorem d_Mod_append_32 : decode M_Mod_append.2.1 32 = .ok (.ireturn, 1) := by decide +kernel
theorem d_Mod_append_33 : decode M_Mod_append.2.1 33 = .ok (.iconst 0, 1) := by decide +kernel
theorem d_Mod_append_34 : decode M_Mod_append.2.1 34 = .ok (.istore_n 1, 1) := by decide +kernel
theorem d_Mod_append_35 : decode M_Mod_append.2.1 35 = .ok (.iload_n 1, 1) := by decide +kernel
theorem d_Mod_append_36 : decode M_Mod_append.2.1 36 = .ok (.aload_n 0, 1) := by decide +kernel
theorem d_Mod_append_37 : decode M_Mod_append.2.1 37 = .ok (.getfield 83, 3) := by decide +kernel
theorem d_Mod_append_40 : decode M_Mod_append.2.1 40 = .ok (.if_icmp .ge 26, 3) := by decide +kernel
theorem d_Mod_append_43 : decode M_Mod_append.2.1 43 = .ok (.aload_n 0, 1) := by decide +kernel
theorem d_Mod_append_44 : decode M_Mod_append.2.1 44 = .ok (.getfield 7, 3) := by decide +kernel
theorem d_Mod_append_47 : decode M_Mod_append.2.1 47 = .ok (.aload_n 0, 1) := by decide +kernel
theorem d_Mod_append_48 : decode M_Mod_append.2.1 48 = .ok (.getfield 78, 3) := by decide +kernel
theorem d_Mod_append_51 : decode M_Mod_append.2.1 51 = .ok (.iload_n 1, 1) := by decide +kernel
theorem d_Mod_append_52 : decode M_Mod_append.2.1 52 = .ok (.iadd, 1) := by decide +kernel
theorem d_Mod_append_53 : decode M_Mod_append.2.1 53 = .ok (.aload_n 0, 1) := by decide +kernel
theorem d_Mod_append_54 : decode M_Mod_append.2.1 54 = .ok (.getfield 13, 3) := by decide +kernel
theorem d_Mod_append_57 : decode M_Mod_append.2.1 57 = .ok (.iload_n 1, 1) := by decide +kernel
theorem d_Mod_append_58 : decode M_Mod_append.2.1 58 = .ok (.iaload, 1) := by decide +kernel
theorem d_Mod_append_59 : decode M_Mod_append.2.1 59 = .ok (.iastore, 1) := by decide +kernel
theorem d_Mod_append_60 : decode M_Mod_append.2.1 60 = .ok (.iinc 1 1, 3) := by decide +kernel
theorem d_Mod_append_63 : decode M_Mod_append.2.1 63 = .ok (.goto (-28), 3) := by decide +kernel
theorem d_Mod_append_66 : decode M_Mod_append.2.1 66 = .ok (.aload_n 0, 1) := by decide +kernel
theorem d_Mod_append_67 : decode M_Mod_append.2.1 67 = .ok (.dup, 1) := by decide +kernel
theorem d_Mod_append_68 : decode M_Mod_append.2.1 68 = .ok (.getfield 78, 3) := by decide +kernel
theorem d_Mod_append_71 : decode M_Mod_append.2.1 71 = .ok (.aload_n 0, 1) := by decide +kernel
theorem d_Mod_append_72 : decode M_Mod_append.2.1 72 = .ok (.getfield 83, 3) := by decide +kernel
theorem d_Mod_append_75 : decode M_Mod_append.2.1 75 = .ok (.iadd, 1) := by decide +kernel
theorem d_Mod_append_76 : decode M_Mod_append.2.1 76 = .ok (.putfield 78, 3) := by decide +kernel
theorem d_Mod_append_79 : decode M_Mod_append.2.1 79 = .ok (.aload_n 0, 1) := by decide +kernel
theorem d_Mod_append_80 : decode M_Mod_append.2.1 80 = .ok (.getfield 78, 3) := by decide +kernel
theorem d_Mod_append_83 : decode M_Mod_append.2.1 83 = .ok (.ireturn, 1) := by decide +kernel
theorem d_Mod_takeOver_0 : decode M_Mod_takeOver.2.1 0 = .ok (.iconst 0, 1) := by decide +kernel
theorem d_Mod_takeOver_1 : decode M_Mod_takeOver.2.1 1 = .ok (.istore_n 1, 1) := by decide +kernel
theorem d_Mod_takeOver_2 : decode M_Mod_takeOver.2.1 2 = .ok (.iload_n 1, 1) := by decide +kernel
theorem d_Mod_takeOver_3 : decode M_Mod_takeOver.2.1 3 = .ok (.aload_n 0, 1) := by decide +kernel
theorem d_Mod_takeOver_4 : decode M_Mod_takeOver.2.1 4 = .ok (.getfield 86, 3) := by decide +kernel
theorem d_Mod_takeOver_7 : decode M_Mod_takeOver.2.1 7 = .ok (.if_icmp .ge 21, 3) := by decide +kernel
theorem d_Mod_takeOver_10 : decode M_Mod_takeOver.2.1 10 = .ok (.aload_n 0, 1) := by decide +kernel
theorem d_Mod_takeOver_11 : decode M_Mod_takeOver.2.1 11 = .ok (.getfield 13, 3) := by decide +kernel
theorem d_Mod_takeOver_14 : decode M_Mod_takeOver.2.1 14 = .ok (.iload_n 1, 1) := by decide +kernel
theorem d_Mod_takeOver_15 : decode M_Mod_takeOver.2.1 15 = .ok (.aload_n 0, 1) := by decide +kernel
theorem d_Mod_takeOver_16 : decode M_Mod_takeOver.2.1 16 = .ok (.getfield 16, 3) := by decide +kernel
theorem d_Mod_takeOver_19 : decode M_Mod_takeOver.2.1 19 = .ok (.iload_n 1, 1) := by decide +kernel
theorem d_Mod_takeOver_20 : decode M_Mod_takeOver.2.1 20 = .ok (.iaload, 1) := by decide +kernel
theorem d_Mod_takeOver_21 : decode M_Mod_takeOver.2.1 21 = .ok (.iastore, 1) := by decide +kernel
theorem d_Mod_takeOver_22 : decode M_Mod_takeOver.2.1 22 = .ok (.iinc 1 1, 3) := by decide +kernel
theorem d_Mod_takeOver_25 : decode M_Mod_takeOver.2.1 25 = .ok (.goto (-23), 3) := by decide +kernel
theorem d_Mod_takeOver_28 : decode M_Mod_takeOver.2.1 28 = .ok (.aload_n 0, 1) := by decide +kernel
theorem d_Mod_takeOver_29 : decode M_Mod_takeOver.2.1 29 = .ok (.aload_n 0, 1) := by decide +kernel
theorem d_Mod_takeOver_30 : decode M_Mod_takeOver.2.1 30 = .ok (.getfield 86, 3) := by decide +kernel
theorem d_Mod_takeOver_33 : decode M_Mod_takeOver.2.1 33 = .ok (.putfield 83, 3) := by decide +kernel
theorem d_Mod_takeOver_36 : decode M_Mod_takeOver.2.1 36 = .ok (.return_, 1) := by decide +kernel
theorem d_Mod_step_0 : decode M_Mod_step.2.1 0 = .ok (.iload_n 0, 1) := by decide +kernel
theorem d_Mod_step_1 : decode M_Mod_step.2.1 1 = .ok (.iload_n 1, 1) := by decide +kernel
theorem d_Mod_step_2 : decode M_Mod_step.2.1 2 = .ok (.bipush 8, 2) := by decide +kernel
theorem d_Mod_step_4 : decode M_Mod_step.2.1 4 = .ok (.ishl, 1) := by decide +kernel
theorem d_Mod_step_5 : decode M_Mod_step.2.1 5 = .ok (.ixor, 1) := by decide +kernel
theorem d_Mod_step_6 : decode M_Mod_step.2.1 6 = .ok (.istore_n 2, 1) := by decide +kernel
theorem d_Mod_step_7 : decode M_Mod_step.2.1 7 = .ok (.iconst 0, 1) := by decide +kernel
theorem d_Mod_step_8 : decode M_Mod_step.2.1 8 = .ok (.istore_n 3, 1) := by decide +kernel
theorem d_Mod_step_9 : decode M_Mod_step.2.1 9 = .ok (.iload_n 3, 1) := by decide +kernel
theorem d_Mod_step_10 : decode M_Mod_step.2.1 10 = .ok (.bipush 8, 2) := by decide +kernel
theorem d_Mod_step_12 : decode M_Mod_step.2.1 12 = .ok (.if_icmp .ge 36, 3) := by decide +kernel
theorem d_Mod_step_15 : decode M_Mod_step.2.1 15 = .ok (.iload_n 2, 1) := by decide +kernel
theorem d_Mod_step_16 : decode M_Mod_step.2.1 16 = .ok (.ldc 89, 2) := by decide +kernel
theorem d_Mod_step_18 : decode M_Mod_step.2.1 18 = .ok (.iand, 1) := by decide +kernel
theorem d_Mod_step_19 : decode M_Mod_step.2.1 19 = .ok (.ifCond .eq 16, 3) := by decide +kernel
theorem d_Mod_step_22 : decode M_Mod_step.2.1 22 = .ok (.iload_n 2, 1) := by decide +kernel
theorem d_Mod_step_23 : decode M_Mod_step.2.1 23 = .ok (.iconst 1, 1) := by decide +kernel
theorem d_Mod_step_24 : decode M_Mod_step.2.1 24 = .ok (.ishl, 1) := by decide +kernel
theorem d_Mod_step_25 : decode M_Mod_step.2.1 25 = .ok (.sipush 4129, 3) := by decide +kernel
theorem d_Mod_step_28 : decode M_Mod_step.2.1 28 = .ok (.ixor, 1) := by decide +kernel
theorem d_Mod_step_29 : decode M_Mod_step.2.1 29 = .ok (.ldc 90, 2) := by decide +kernel
theorem d_Mod_step_31 : decode M_Mod_step.2.1 31 = .ok (.iand, 1) := by decide +kernel
theorem d_Mod_step_32 : decode M_Mod_step.2.1 32 = .ok (.goto 9, 3) := by decide +kernel
theorem d_Mod_step_35 : decode M_Mod_step.2.1 35 = .ok (.iload_n 2, 1) := by decide +kernel
theorem d_Mod_step_36 : decode M_Mod_step.2.1 36 = .ok (.iconst 1, 1) := by decide +kernel
theorem d_Mod_step_37 : decode M_Mod_step.2.1 37 = .ok (.ishl, 1) := by decide +kernel
theorem d_Mod_step_38 : decode M_Mod_step.2.1 38 = .ok (.ldc 90, 2) := by decide +kernel
theorem d_Mod_step_40 : decode M_Mod_step.2.1 40 = .ok (.iand, 1) := by decide +kernel
theorem d_Mod_step_41 : decode M_Mod_step.2.1 41 = .ok (.istore_n 2, 1) := by decide +kernel
theorem d_Mod_step_42 : decode M_Mod_step.2.1 42 = .ok (.iinc 3 1, 3) := by decide +kernel
theorem d_Mod_step_45 : decode M_Mod_step.2.1 45 = .ok (.goto (-36), 3) := by decide +kernel
theorem d_Mod_step_48 : decode M_Mod_step.2.1 48 = .ok (.iload_n 2, 1) := by decide +kernel
theorem d_Mod_step_49 : decode M_Mod_step.2.1 49 = .ok (.ireturn, 1) := by decide +kernel
theorem d_Mod_checkOf_0 : decode M_Mod_checkOf.2.1 0 = .ok (.ldc 90, 2) := by decide +kernel
theorem d_Mod_checkOf_2 : decode M_Mod_checkOf.2.1 2 = .ok (.istore_n 1, 1) := by decide +kernel
theorem d_Mod_checkOf_3 : decode M_Mod_checkOf.2.1 3 = .ok (.iconst 0, 1) := by decide +kernel
theorem d_Mod_checkOf_4 : decode M_Mod_checkOf.2.1 4 = .ok (.istore_n 2, 1) := by decide +kernel
theorem d_Mod_checkOf_5 : decode M_Mod_checkOf.2.1 5 = .ok (.iload_n 2, 1) := by decide +kernel
theorem d_Mod_checkOf_6 : decode M_Mod_checkOf.2.1 6 = .ok (.aload_n 0, 1) := by decide +kernel
theorem d_Mod_checkOf_7 : decode M_Mod_checkOf.2.1 7 = .ok (.getfield 91, 3) := by decide +kernel
theorem d_Mod_checkOf_10 : decode M_Mod_checkOf.2.1 10 = .ok (.if_icmp .ge 20, 3) := by decide +kernel
theorem d_Mod_checkOf_13 : decode M_Mod_checkOf.2.1 13 = .ok (.iload_n 1, 1) := by decide +kernel
theorem d_Mod_checkOf_14 : decode M_Mod_checkOf.2.1 14 = .ok (.aload_n 0, 1) := by decide +kernel
theorem d_Mod_checkOf_15 : decode M_Mod_checkOf.2.1 15 = .ok (.getfield 23, 3) := by decide +kernel
theorem d_Mod_checkOf_18 : decode M_Mod_checkOf.2.1 18 = .ok (.iload_n 2, 1) := by decide +kernel
theorem d_Mod_checkOf_19 : decode M_Mod_checkOf.2.1 19 = .ok (.iaload, 1) := by decide +kernel
theorem d_Mod_checkOf_20 : decode M_Mod_checkOf.2.1 20 = .ok (.invokestatic 94, 3) := by decide +kernel
theorem d_Mod_checkOf_23 : decode M_Mod_checkOf.2.1 23 = .ok (.istore_n 1, 1) := by decide +kernel
theorem d_Mod_checkOf_24 : decode M_Mod_checkOf.2.1 24 = .ok (.iinc 2 1, 3) := by decide +kernel
theorem d_Mod_checkOf_27 : decode M_Mod_checkOf.2.1 27 = .ok (.goto (-22), 3) := by decide +kernel
theorem d_Mod_checkOf_30 : decode M_Mod_checkOf.2.1 30 = .ok (.iload_n 1, 1) := by decide +kernel
theorem d_Mod_checkOf_31 : decode M_Mod_checkOf.2.1 31 = .ok (.ireturn, 1) := by decide +kernel
theorem d_Mod_addTotal_0 : decode M_Mod_addTotal.2.1 0 = .ok (.iload_n 0, 1) := by decide +kernel
theorem d_Mod_addTotal_1 : decode M_Mod_addTotal.2.1 1 = .ok (.iconst 1, 1) := by decide +kernel
theorem d_Mod_addTotal_2 : decode M_Mod_addTotal.2.1 2 = .ok (.ishl, 1) := by decide +kernel
theorem d_Mod_addTotal_3 : decode M_Mod_addTotal.2.1 3 = .ok (.ldc 90, 2) := by decide +kernel
theorem d_Mod_addTotal_5 : decode M_Mod_addTotal.2.1 5 = .ok (.iand, 1) := by decide +kernel
theorem d_Mod_addTotal_6 : decode M_Mod_addTotal.2.1 6 = .ok (.iload_n 0, 1) := by decide +kernel
theorem d_Mod_addTotal_7 : decode M_Mod_addTotal.2.1 7 = .ok (.bipush 15, 2) := by decide +kernel
theorem d_Mod_addTotal_9 : decode M_Mod_addTotal.2.1 9 = .ok (.ishr, 1) := by decide +kernel
theorem d_Mod_addTotal_10 : decode M_Mod_addTotal.2.1 10 = .ok (.ior, 1) := by decide +kernel
theorem d_Mod_addTotal_11 : decode M_Mod_addTotal.2.1 11 = .ok (.iload_n 1, 1) := by decide +kernel
theorem d_Mod_addTotal_12 : decode M_Mod_addTotal.2.1 12 = .ok (.ixor, 1) := by decide +kernel
theorem d_Mod_addTotal_13 : decode M_Mod_addTotal.2.1 13 = .ok (.ireturn, 1) := by decide +kernel
theorem d_Mod_shorten_0 : decode M_Mod_shorten.2.1 0 = .ok (.iconst 0, 1) := by decide +kernel
theorem d_Mod_shorten_1 : decode M_Mod_shorten.2.1 1 = .ok (.istore_n 3, 1) := by decide +kernel
theorem d_Mod_shorten_2 : decode M_Mod_shorten.2.1 2 = .ok (.iload_n 1, 1) := by decide +kernel
theorem d_Mod_shorten_3 : decode M_Mod_shorten.2.1 3 = .ok (.istore 4, 2) := by decide +kernel
theorem d_Mod_shorten_5 : decode M_Mod_shorten.2.1 5 = .ok (.iload 4, 2) := by decide +kernel
theorem d_Mod_shorten_7 : decode M_Mod_shorten.2.1 7 = .ok (.iload_n 1, 1) := by decide +kernel
theorem d_Mod_shorten_8 : decode M_Mod_shorten.2.1 8 = .ok (.iload_n 2, 1) := by decide +kernel
theorem d_Mod_shorten_9 : decode M_Mod_shorten.2.1 9 = .ok (.iadd, 1) := by decide +kernel
theorem d_Mod_shorten_10 : decode M_Mod_shorten.2.1 10 = .ok (.if_icmp .ge 132, 3) := by decide +kernel
theorem d_Mod_shorten_13 : decode M_Mod_shorten.2.1 13 = .ok (.iload_n 3, 1) := by decide +kernel
theorem d_Mod_shorten_14 : decode M_Mod_shorten.2.1 14 = .ok (.bipush 72, 2) := by decide +kernel
theorem d_Mod_shorten_16 : decode M_Mod_shorten.2.1 16 = .ok (.if_icmp .ge 126, 3) := by decide +kernel
theorem d_Mod_shorten_19 : decode M_Mod_shorten.2.1 19 = .ok (.iconst 1, 1) := by decide +kernel
theorem d_Mod_shorten_20 : decode M_Mod_shorten.2.1 20 = .ok (.istore 5, 2) := by decide +kernel
theorem d_Mod_shorten_22 : decode M_Mod_shorten.2.1 22 = .ok (.iload 4, 2) := by decide +kernel
theorem d_Mod_shorten_24 : decode M_Mod_shorten.2.1 24 = .ok (.iload 5, 2) := by decide +kernel
theorem d_Mod_shorten_26 : decode M_Mod_shorten.2.1 26 = .ok (.iadd, 1) := by decide +kernel
theorem d_Mod_shorten_27 : decode M_Mod_shorten.2.1 27 = .ok (.iload_n 1, 1) := by decide +kernel
theorem d_Mod_shorten_28 : decode M_Mod_shorten.2.1 28 = .ok (.iload_n 2, 1) := by decide +kernel
theorem d_Mod_shorten_29 : decode M_Mod_shorten.2.1 29 = .ok (.iadd, 1) := by decide +kernel
theorem d_Mod_shorten_30 : decode M_Mod_shorten.2.1 30 = .ok (.if_icmp .ge 37, 3) := by decide +kernel
theorem d_Mod_shorten_33 : decode M_Mod_shorten.2.1 33 = .ok (.iload 5, 2) := by decide +kernel
theorem d_Mod_shorten_35 : decode M_Mod_shorten.2.1 35 = .ok (.sipush 255, 3) := by decide +kernel
theorem d_Mod_shorten_38 : decode M_Mod_shorten.2.1 38 = .ok (.if_icmp .ge 29, 3) := by decide +kernel
theorem d_Mod_shorten_41 : decode M_Mod_shorten.2.1 41 = .ok (.aload_n 0, 1) := by decide +kernel
theorem d_Mod_shorten_42 : decode M_Mod_shorten.2.1 42 = .ok (.getfield 7, 3) := by decide +kernel
theorem d_Mod_shorten_45 : decode M_Mod_shorten.2.1 45 = .ok (.iload 4, 2) := by decide +kernel
theorem d_Mod_shorten_47 : decode M_Mod_shorten.2.1 47 = .ok (.iload 5, 2) := by decide +kernel
theorem d_Mod_shorten_49 : decode M_Mod_shorten.2.1 49 = .ok (.iadd, 1) := by decide +kernel
theorem d_Mod_shorten_50 : decode M_Mod_shorten.2.1 50 = .ok (.iaload, 1) := by decide +kernel
theorem d_Mod_shorten_51 : decode M_Mod_shorten.2.1 51 = .ok (.aload_n 0, 1) := by decide +kernel
theorem d_Mod_shorten_52 : decode M_Mod_shorten.2.1 52 = .ok (.getfield 7, 3) := by decide +kernel
theorem d_Mod_shorten_55 : decode M_Mod_shorten.2.1 55 = .ok (.iload 4, 2) := by decide +kernel
theorem d_Mod_shorten_57 : decode M_Mod_shorten.2.1 57 = .ok (.iaload, 1) := by decide +kernel
theorem d_Mod_shorten_58 : decode M_Mod_shorten.2.1 58 = .ok (.if_icmp .ne 9, 3) := by decide +kernel
theorem d_Mod_shorten_61 : decode M_Mod_shorten.2.1 61 = .ok (.iinc 5 1, 3) := by decide +kernel
theorem d_Mod_shorten_64 : decode M_Mod_shorten.2.1 64 = .ok (.goto (-42), 3) := by decide +kernel
theorem d_Mod_shorten_67 : decode M_Mod_shorten.2.1 67 = .ok (.iload 5, 2) := by decide +kernel
theorem d_Mod_shorten_69 : decode M_Mod_shorten.2.1 69 = .ok (.iconst 4, 1) := by decide +kernel
theorem d_Mod_shorten_70 : decode M_Mod_shorten.2.1 70 = .ok (.if_icmp .ge 8, 3) := by decide +kernel
theorem d_Mod_shorten_73 : decode M_Mod_shorten.2.1 73 = .ok (.iload 5, 2) := by decide +kernel
theorem d_Mod_shorten_75 : decode M_Mod_shorten.2.1 75 = .ok (.goto 4, 3) := by decide +kernel
theorem d_Mod_shorten_78 : decode M_Mod_shorten.2.1 78 = .ok (.iconst 4, 1) := by decide +kernel
theorem d_Mod_shorten_79 : decode M_Mod_shorten.2.1 79 = .ok (.istore 6, 2) := by decide +kernel
theorem d_Mod_shorten_81 : decode M_Mod_shorten.2.1 81 = .ok (.iconst 0, 1) := by decide +kernel
theorem d_Mod_shorten_82 : decode M_Mod_shorten.2.1 82 = .ok (.istore 7, 2) := by decide +kernel
theorem d_Mod_shorten_84 : decode M_Mod_shorten.2.1 84 = .ok (.iload 7, 2) := by decide +kernel
theorem d_Mod_shorten_86 : decode M_Mod_shorten.2.1 86 = .ok (.iload 6, 2) := by decide +kernel
theorem d_Mod_shorten_88 : decode M_Mod_shorten.2.1 88 = .ok (.if_icmp .ge 25, 3) := by decide +kernel
theorem d_Mod_shorten_91 : decode M_Mod_shorten.2.1 91 = .ok (.aload_n 0, 1) := by decide +kernel
theorem d_Mod_shorten_92 : decode M_Mod_shorten.2.1 92 = .ok (.getfield 26, 3) := by decide +kernel
theorem d_Mod_shorten_95 : decode M_Mod_shorten.2.1 95 = .ok (.iload_n 3, 1) := by decide +kernel
theorem d_Mod_shorten_96 : decode M_Mod_shorten.2.1 96 = .ok (.aload_n 0, 1) := by decide +kernel
theorem d_Mod_shorten_97 : decode M_Mod_shorten.2.1 97 = .ok (.getfield 7, 3) := by decide +kernel
theorem d_Mod_shorten_100 : decode M_Mod_shorten.2.1 100 = .ok (.iload 4, 2) := by decide +kernel
theorem d_Mod_shorten_102 : decode M_Mod_shorten.2.1 102 = .ok (.iaload, 1) := by decide +kernel
theorem d_Mod_shorten_103 : decode M_Mod_shorten.2.1 103 = .ok (.iastore, 1) := by decide +kernel
theorem d_Mod_shorten_104 : decode M_Mod_shorten.2.1 104 = .ok (.iinc 3 1, 3) := by decide +kernel
theorem d_Mod_shorten_107 : decode M_Mod_shorten.2.1 107 = .ok (.iinc 7 1, 3) := by decide +kernel
theorem d_Mod_shorten_110 : decode M_Mod_shorten.2.1 110 = .ok (.goto (-26), 3) := by decide +kernel
theorem d_Mod_shorten_113 : decode M_Mod_shorten.2.1 113 = .ok (.iload 5, 2) := by decide +kernel
theorem d_Mod_shorten_115 : decode M_Mod_shorten.2.1 115 = .ok (.iconst 3, 1) := by decide +kernel
theorem d_Mod_shorten_116 : decode M_Mod_shorten.2.1 116 = .ok (.if_icmp .le 16, 3) := by decide +kernel
theorem d_Mod_shorten_119 : decode M_Mod_shorten.2.1 119 = .ok (.aload_n 0, 1) := by decide +kernel
theorem d_Mod_shorten_120 : decode M_Mod_shorten.2.1 120 = .ok (.getfield 26, 3) := by decide +kernel
theorem d_Mod_shorten_123 : decode M_Mod_shorten.2.1 123 = .ok (.iload_n 3, 1) := by decide +kernel
theorem d_Mod_shorten_124 : decode M_Mod_shorten.2.1 124 = .ok (.iload 5, 2) := by decide +kernel
theorem d_Mod_shorten_126 : decode M_Mod_shorten.2.1 126 = .ok (.iconst 4, 1) := by decide +kernel
theorem d_Mod_shorten_127 : decode M_Mod_shorten.2.1 127 = .ok (.isub, 1) := by decide +kernel
theorem d_Mod_shorten_128 : decode M_Mod_shorten.2.1 128 = .ok (.iastore, 1) := by decide +kernel
theorem d_Mod_shorten_129 : decode M_Mod_shorten.2.1 129 = .ok (.iinc 3 1, 3) := by decide +kernel
theorem d_Mod_shorten_132 : decode M_Mod_shorten.2.1 132 = .ok (.iload 4, 2) := by decide +kernel
theorem d_Mod_shorten_134 : decode M_Mod_shorten.2.1 134 = .ok (.iload 5, 2) := by decide +kernel
theorem d_Mod_shorten_136 : decode M_Mod_shorten.2.1 136 = .ok (.iadd, 1) := by decide +kernel
theorem d_Mod_shorten_137 : decode M_Mod_shorten.2.1 137 = .ok (.istore 4, 2) := by decide +kernel
theorem d_Mod_shorten_139 : decode M_Mod_shorten.2.1 139 = .ok (.goto (-134), 3) := by decide +kernel
theorem d_Mod_shorten_142 : decode M_Mod_shorten.2.1 142 = .ok (.iload_n 3, 1) := by decide +kernel
theorem d_Mod_shorten_143 : decode M_Mod_shorten.2.1 143 = .ok (.ireturn, 1) := by decide +kernel
theorem d_Mod_lengthen_0 : decode M_Mod_lengthen.2.1 0 = .ok (.aload_n 0, 1) := by decide +kernel
theorem d_Mod_lengthen_1 : decode M_Mod_lengthen.2.1 1 = .ok (.iconst 0, 1) := by decide +kernel
theorem d_Mod_lengthen_2 : decode M_Mod_lengthen.2.1 2 = .ok (.putfield 91, 3) := by decide +kernel
theorem d_Mod_lengthen_5 : decode M_Mod_lengthen.2.1 5 = .ok (.iconst 0, 1) := by decide +kernel
theorem d_Mod_lengthen_6 : decode M_Mod_lengthen.2.1 6 = .ok (.istore_n 1, 1) := by decide +kernel
theorem d_Mod_lengthen_7 : decode M_Mod_lengthen.2.1 7 = .ok (.iconst 0, 1) := by decide +kernel
theorem d_Mod_lengthen_8 : decode M_Mod_lengthen.2.1 8 = .ok (.istore_n 2, 1) := by decide +kernel
theorem d_Mod_lengthen_9 : decode M_Mod_lengthen.2.1 9 = .ok (.iload_n 2, 1) := by decide +kernel
theorem d_Mod_lengthen_10 : decode M_Mod_lengthen.2.1 10 = .ok (.aload_n 0, 1) := by decide +kernel
theorem d_Mod_lengthen_11 : decode M_Mod_lengthen.2.1 11 = .ok (.getfield 98, 3) := by decide +kernel
theorem d_Mod_lengthen_14 : decode M_Mod_lengthen.2.1 14 = .ok (.if_icmp .ge 118, 3) := by decide +kernel
theorem d_Mod_lengthen_17 : decode M_Mod_lengthen.2.1 17 = .ok (.iload_n 1, 1) := by decide +kernel
theorem d_Mod_lengthen_18 : decode M_Mod_lengthen.2.1 18 = .ok (.iconst 4, 1) := by decide +kernel
theorem d_Mod_lengthen_19 : decode M_Mod_lengthen.2.1 19 = .ok (.if_icmp .ne 53, 3) := by decide +kernel
theorem d_Mod_lengthen_22 : decode M_Mod_lengthen.2.1 22 = .ok (.iconst 0, 1) := by decide +kernel
theorem d_Mod_lengthen_23 : decode M_Mod_lengthen.2.1 23 = .ok (.istore_n 3, 1) := by decide +kernel
theorem d_Mod_lengthen_24 : decode M_Mod_lengthen.2.1 24 = .ok (.iload_n 3, 1) := by decide +kernel
theorem d_Mod_lengthen_25 : decode M_Mod_lengthen.2.1 25 = .ok (.aload_n 0, 1) := by decide +kernel
theorem d_Mod_lengthen_26 : decode M_Mod_lengthen.2.1 26 = .ok (.getfield 26, 3) := by decide +kernel
theorem d_Mod_lengthen_29 : decode M_Mod_lengthen.2.1 29 = .ok (.iload_n 2, 1) := by decide +kernel
theorem d_Mod_lengthen_30 : decode M_Mod_lengthen.2.1 30 = .ok (.iaload, 1) := by decide +kernel
theorem d_Mod_lengthen_31 : decode M_Mod_lengthen.2.1 31 = .ok (.if_icmp .ge 36, 3) := by decide +kernel
theorem d_Mod_lengthen_34 : decode M_Mod_lengthen.2.1 34 = .ok (.aload_n 0, 1) := by decide +kernel
theorem d_Mod_lengthen_35 : decode M_Mod_lengthen.2.1 35 = .ok (.getfield 23, 3) := by decide +kernel
theorem d_Mod_lengthen_38 : decode M_Mod_lengthen.2.1 38 = .ok (.aload_n 0, 1) := by decide +kernel
theorem d_Mod_lengthen_39 : decode M_Mod_lengthen.2.1 39 = .ok (.getfield 91, 3) := by decide +kernel
theorem d_Mod_lengthen_42 : decode M_Mod_lengthen.2.1 42 = .ok (.aload_n 0, 1) := by decide +kernel
theorem d_Mod_lengthen_43 : decode M_Mod_lengthen.2.1 43 = .ok (.getfield 26, 3) := by decide +kernel
theorem d_Mod_lengthen_46 : decode M_Mod_lengthen.2.1 46 = .ok (.iload_n 2, 1) := by decide +kernel
theorem d_Mod_lengthen_47 : decode M_Mod_lengthen.2.1 47 = .ok (.iconst 1, 1) := by decide +kernel
theorem d_Mod_lengthen_48 : decode M_Mod_lengthen.2.1 48 = .ok (.isub, 1) := by decide +kernel
theorem d_Mod_lengthen_49 : decode M_Mod_lengthen.2.1 49 = .ok (.iaload, 1) := by decide +kernel
theorem d_Mod_lengthen_50 : decode M_Mod_lengthen.2.1 50 = .ok (.iastore, 1) := by decide +kernel
theorem d_Mod_lengthen_51 : decode M_Mod_lengthen.2.1 51 = .ok (.aload_n 0, 1) := by decide +kernel
theorem d_Mod_lengthen_52 : decode M_Mod_lengthen.2.1 52 = .ok (.dup, 1) := by decide +kernel
theorem d_Mod_lengthen_53 : decode M_Mod_lengthen.2.1 53 = .ok (.getfield 91, 3) := by decide +kernel
theorem d_Mod_lengthen_56 : decode M_Mod_lengthen.2.1 56 = .ok (.iconst 1, 1) := by decide +kernel
theorem d_Mod_lengthen_57 : decode M_Mod_lengthen.2.1 57 = .ok (.iadd, 1) := by decide +kernel
theorem d_Mod_lengthen_58 : decode M_Mod_lengthen.2.1 58 = .ok (.putfield 91, 3) := by decide +kernel
theorem d_Mod_lengthen_61 : decode M_Mod_lengthen.2.1 61 = .ok (.iinc 3 1, 3) := by decide +kernel
theorem d_Mod_lengthen_64 : decode M_Mod_lengthen.2.1 64 = .ok (.goto (-40), 3) := by decide +kernel
theorem d_Mod_lengthen_67 : decode M_Mod_lengthen.2.1 67 = .ok (.iconst 0, 1) := by decide +kernel
theorem d_Mod_lengthen_68 : decode M_Mod_lengthen.2.1 68 = .ok (.istore_n 1, 1) := by decide +kernel
theorem d_Mod_lengthen_69 : decode M_Mod_lengthen.2.1 69 = .ok (.goto 57, 3) := by decide +kernel
theorem d_Mod_lengthen_72 : decode M_Mod_lengthen.2.1 72 = .ok (.iload_n 1, 1) := by decide +kernel
theorem d_Mod_lengthen_73 : decode M_Mod_lengthen.2.1 73 = .ok (.ifCond .le 26, 3) := by decide +kernel
theorem d_Mod_lengthen_76 : decode M_Mod_lengthen.2.1 76 = .ok (.aload_n 0, 1) := by decide +kernel
theorem d_Mod_lengthen_77 : decode M_Mod_lengthen.2.1 77 = .ok (.getfield 26, 3) := by decide +kernel
theorem d_Mod_lengthen_80 : decode M_Mod_lengthen.2.1 80 = .ok (.iload_n 2, 1) := by decide +kernel
theorem d_Mod_lengthen_81 : decode M_Mod_lengthen.2.1 81 = .ok (.iaload, 1) := by decide +kernel
theorem d_Mod_lengthen_82 : decode M_Mod_lengthen.2.1 82 = .ok (.aload_n 0, 1) := by decide +kernel
theorem d_Mod_lengthen_83 : decode M_Mod_lengthen.2.1 83 = .ok (.getfield 26, 3) := by decide +kernel
theorem d_Mod_lengthen_86 : decode M_Mod_lengthen.2.1 86 = .ok (.iload_n 2, 1) := by decide +kernel
theorem d_Mod_lengthen_87 : decode M_Mod_lengthen.2.1 87 = .ok (.iconst 1, 1) := by decide +kernel
theorem d_Mod_lengthen_88 : decode M_Mod_lengthen.2.1 88 = .ok (.isub, 1) := by decide +kernel
theorem d_Mod_lengthen_89 : decode M_Mod_lengthen.2.1 89 = .ok (.iaload, 1) := by decide +kernel
theorem d_Mod_lengthen_90 : decode M_Mod_lengthen.2.1 90 = .ok (.if_icmp .ne 9, 3) := by decide +kernel
theorem d_Mod_lengthen_93 : decode M_Mod_lengthen.2.1 93 = .ok (.iload_n 1, 1) := by decide +kernel
theorem d_Mod_lengthen_94 : decode M_Mod_lengthen.2.1 94 = .ok (.iconst 1, 1) := by decide +kernel
theorem d_Mod_lengthen_95 : decode M_Mod_lengthen.2.1 95 = .ok (.iadd, 1) := by decide +kernel
theorem d_Mod_lengthen_96 : decode M_Mod_lengthen.2.1 96 = .ok (.goto 4, 3) := by decide +kernel
theorem d_Mod_lengthen_99 : decode M_Mod_lengthen.2.1 99 = .ok (.iconst 1, 1) := by decide +kernel
theorem d_Mod_lengthen_100 : decode M_Mod_lengthen.2.1 100 = .ok (.istore_n 1, 1) := by decide +kernel
theorem d_Mod_lengthen_101 : decode M_Mod_lengthen.2.1 101 = .ok (.aload_n 0, 1) := by decide +kernel
theorem d_Mod_lengthen_102 : decode M_Mod_lengthen.2.1 102 = .ok (.getfield 23, 3) := by decide +kernel
theorem d_Mod_lengthen_105 : decode M_Mod_lengthen.2.1 105 = .ok (.aload_n 0, 1) := by decide +kernel
theorem d_Mod_lengthen_106 : decode M_Mod_lengthen.2.1 106 = .ok (.getfield 91, 3) := by decide +kernel
theorem d_Mod_lengthen_109 : decode M_Mod_lengthen.2.1 109 = .ok (.aload_n 0, 1) := by decide +kernel
theorem d_Mod_lengthen_110 : decode M_Mod_lengthen.2.1 110 = .ok (.getfield 26, 3) := by decide +kernel
theorem d_Mod_lengthen_113 : decode M_Mod_lengthen.2.1 113 = .ok (.iload_n 2, 1) := by decide +kernel
theorem d_Mod_lengthen_114 : decode M_Mod_lengthen.2.1 114 = .ok (.iaload, 1) := by decide +kernel
theorem d_Mod_lengthen_115 : decode M_Mod_lengthen.2.1 115 = .ok (.iastore, 1) := by decide +kernel
theorem d_Mod_lengthen_116 : decode M_Mod_lengthen.2.1 116 = .ok (.aload_n 0, 1) := by decide +kernel
theorem d_Mod_lengthen_117 : decode M_Mod_lengthen.2.1 117 = .ok (.dup, 1) := by decide +kernel
theorem d_Mod_lengthen_118 : decode M_Mod_lengthen.2.1 118 = .ok (.getfield 91, 3) := by decide +kernel
theorem d_Mod_lengthen_121 : decode M_Mod_lengthen.2.1 121 = .ok (.iconst 1, 1) := by decide +kernel
theorem d_Mod_lengthen_122 : decode M_Mod_lengthen.2.1 122 = .ok (.iadd, 1) := by decide +kernel
theorem d_Mod_lengthen_123 : decode M_Mod_lengthen.2.1 123 = .ok (.putfield 91, 3) := by decide +kernel
theorem d_Mod_lengthen_126 : decode M_Mod_lengthen.2.1 126 = .ok (.iinc 2 1, 3) := by decide +kernel
theorem d_Mod_lengthen_129 : decode M_Mod_lengthen.2.1 129 = .ok (.goto (-120), 3) := by decide +kernel
theorem d_Mod_lengthen_132 : decode M_Mod_lengthen.2.1 132 = .ok (.iload_n 1, 1) := by decide +kernel
theorem d_Mod_lengthen_133 : decode M_Mod_lengthen.2.1 133 = .ok (.iconst 4, 1) := by decide +kernel
theorem d_Mod_lengthen_134 : decode M_Mod_lengthen.2.1 134 = .ok (.if_icmp .ge 7, 3) := by decide +kernel
theorem d_Mod_lengthen_137 : decode M_Mod_lengthen.2.1 137 = .ok (.iconst 1, 1) := by decide +kernel
theorem d_Mod_lengthen_138 : decode M_Mod_lengthen.2.1 138 = .ok (.goto 4, 3) := by decide +kernel
theorem d_Mod_lengthen_141 : decode M_Mod_lengthen.2.1 141 = .ok (.iconst 0, 1) := by decide +kernel
theorem d_Mod_lengthen_142 : decode M_Mod_lengthen.2.1 142 = .ok (.ireturn, 1) := by decide +kernel
theorem d_Mod_before_0 : decode M_Mod_before.2.1 0 = .ok (.iconst 0, 1) := by decide +kernel
theorem d_Mod_before_1 : decode M_Mod_before.2.1 1 = .ok (.istore_n 3, 1) := by decide +kernel
theorem d_Mod_before_2 : decode M_Mod_before.2.1 2 = .ok (.iload_n 3, 1) := by decide +kernel
theorem d_Mod_before_3 : decode M_Mod_before.2.1 3 = .ok (.aload_n 0, 1) := by decide +kernel
theorem d_Mod_before_4 : decode M_Mod_before.2.1 4 = .ok (.getfield 98, 3) := by decide +kernel
theorem d_Mod_before_7 : decode M_Mod_before.2.1 7 = .ok (.if_icmp .ge 59, 3) := by decide +kernel
theorem d_Mod_before_10 : decode M_Mod_before.2.1 10 = .ok (.aload_n 0, 1) := by decide +kernel
theorem d_Mod_before_11 : decode M_Mod_before.2.1 11 = .ok (.getfield 26, 3) := by decide +kernel
theorem d_Mod_before_14 : decode M_Mod_before.2.1 14 = .ok (.iload_n 1, 1) := by decide +kernel
theorem d_Mod_before_15 : decode M_Mod_before.2.1 15 = .ok (.iload_n 3, 1) := by decide +kernel
theorem d_Mod_before_16 : decode M_Mod_before.2.1 16 = .ok (.iadd, 1) := by decide +kernel
theorem d_Mod_before_17 : decode M_Mod_before.2.1 17 = .ok (.aload_n 0, 1) := by decide +kernel
theorem d_Mod_before_18 : decode M_Mod_before.2.1 18 = .ok (.getfield 98, 3) := by decide +kernel
theorem d_Mod_before_21 : decode M_Mod_before.2.1 21 = .ok (.irem, 1) := by decide +kernel
theorem d_Mod_before_22 : decode M_Mod_before.2.1 22 = .ok (.iaload, 1) := by decide +kernel
theorem d_Mod_before_23 : decode M_Mod_before.2.1 23 = .ok (.istore 4, 2) := by decide +kernel
theorem d_Mod_before_25 : decode M_Mod_before.2.1 25 = .ok (.aload_n 0, 1) := by decide +kernel
theorem d_Mod_before_26 : decode M_Mod_before.2.1 26 = .ok (.getfield 26, 3) := by decide +kernel
theorem d_Mod_before_29 : decode M_Mod_before.2.1 29 = .ok (.iload_n 2, 1) := by decide +kernel
theorem d_Mod_before_30 : decode M_Mod_before.2.1 30 = .ok (.iload_n 3, 1) := by decide +kernel
theorem d_Mod_before_31 : decode M_Mod_before.2.1 31 = .ok (.iadd, 1) := by decide +kernel
theorem d_Mod_before_32 : decode M_Mod_before.2.1 32 = .ok (.aload_n 0, 1) := by decide +kernel
theorem d_Mod_before_33 : decode M_Mod_before.2.1 33 = .ok (.getfield 98, 3) := by decide +kernel
theorem d_Mod_before_36 : decode M_Mod_before.2.1 36 = .ok (.irem, 1) := by decide +kernel
theorem d_Mod_before_37 : decode M_Mod_before.2.1 37 = .ok (.iaload, 1) := by decide +kernel
theorem d_Mod_before_38 : decode M_Mod_before.2.1 38 = .ok (.istore 5, 2) := by decide +kernel
theorem d_Mod_before_40 : decode M_Mod_before.2.1 40 = .ok (.iload 4, 2) := by decide +kernel
theorem d_Mod_before_42 : decode M_Mod_before.2.1 42 = .ok (.iload 5, 2) := by decide +kernel
theorem d_Mod_before_44 : decode M_Mod_before.2.1 44 = .ok (.if_icmp .eq 16, 3) := by decide +kernel
theorem d_Mod_before_47 : decode M_Mod_before.2.1 47 = .ok (.iload 4, 2) := by decide +kernel
theorem d_Mod_before_49 : decode M_Mod_before.2.1 49 = .ok (.iload 5, 2) := by decide +kernel
theorem d_Mod_before_51 : decode M_Mod_before.2.1 51 = .ok (.if_icmp .ge 7, 3) := by decide +kernel
theorem d_Mod_before_54 : decode M_Mod_before.2.1 54 = .ok (.iconst 1, 1) := by decide +kernel
theorem d_Mod_before_55 : decode M_Mod_before.2.1 55 = .ok (.goto 4, 3) := by decide +kernel
theorem d_Mod_before_58 : decode M_Mod_before.2.1 58 = .ok (.iconst 0, 1) := by decide +kernel
theorem d_Mod_before_59 : decode M_Mod_before.2.1 59 = .ok (.ireturn, 1) := by decide +kernel
theorem d_Mod_before_60 : decode M_Mod_before.2.1 60 = .ok (.iinc 3 1, 3) := by decide +kernel
theorem d_Mod_before_63 : decode M_Mod_before.2.1 63 = .ok (.goto (-61), 3) := by decide +kernel
theorem d_Mod_before_66 : decode M_Mod_before.2.1 66 = .ok (.iload_n 1, 1) := by decide +kernel
theorem d_Mod_before_67 : decode M_Mod_before.2.1 67 = .ok (.iload_n 2, 1) := by decide +kernel
theorem d_Mod_before_68 : decode M_Mod_before.2.1 68 = .ok (.if_icmp .ge 7, 3) := by decide +kernel
theorem d_Mod_before_71 : decode M_Mod_before.2.1 71 = .ok (.iconst 1, 1) := by decide +kernel
theorem d_Mod_before_72 : decode M_Mod_before.2.1 72 = .ok (.goto 4, 3) := by decide +kernel
theorem d_Mod_before_75 : decode M_Mod_before.2.1 75 = .ok (.iconst 0, 1) := by decide +kernel
theorem d_Mod_before_76 : decode M_Mod_before.2.1 76 = .ok (.ireturn, 1) := by decide +kernel
theorem d_Mod_sort_0 : decode M_Mod_sort.2.1 0 = .ok (.iconst 0, 1) := by decide +kernel
theorem d_Mod_sort_1 : decode M_Mod_sort.2.1 1 = .ok (.istore_n 1, 1) := by decide +kernel
theorem d_Mod_sort_2 : decode M_Mod_sort.2.1 2 = .ok (.iload_n 1, 1) := by decide +kernel
theorem d_Mod_sort_3 : decode M_Mod_sort.2.1 3 = .ok (.aload_n 0, 1) := by decide +kernel
theorem d_Mod_sort_4 : decode M_Mod_sort.2.1 4 = .ok (.getfield 98, 3) := by decide +kernel
theorem d_Mod_sort_7 : decode M_Mod_sort.2.1 7 = .ok (.if_icmp .ge 89, 3) := by decide +kernel
theorem d_Mod_sort_10 : decode M_Mod_sort.2.1 10 = .ok (.iconst 0, 1) := by decide +kernel
theorem d_Mod_sort_11 : decode M_Mod_sort.2.1 11 = .ok (.istore_n 2, 1) := by decide +kernel
theorem d_Mod_sort_12 : decode M_Mod_sort.2.1 12 = .ok (.iconst 0, 1) := by decide +kernel
theorem d_Mod_sort_13 : decode M_Mod_sort.2.1 13 = .ok (.istore_n 3, 1) := by decide +kernel
theorem d_Mod_sort_14 : decode M_Mod_sort.2.1 14 = .ok (.iload_n 3, 1) := by decide +kernel
theorem d_Mod_sort_15 : decode M_Mod_sort.2.1 15 = .ok (.aload_n 0, 1) := by decide +kernel
theorem d_Mod_sort_16 : decode M_Mod_sort.2.1 16 = .ok (.getfield 98, 3) := by decide +kernel
theorem d_Mod_sort_19 : decode M_Mod_sort.2.1 19 = .ok (.if_icmp .ge 31, 3) := by decide +kernel
theorem d_Mod_sort_22 : decode M_Mod_sort.2.1 22 = .ok (.iload_n 2, 1) := by decide +kernel
theorem d_Mod_sort_23 : decode M_Mod_sort.2.1 23 = .ok (.iload_n 3, 1) := by decide +kernel
theorem d_Mod_sort_24 : decode M_Mod_sort.2.1 24 = .ok (.iload_n 1, 1) := by decide +kernel
theorem d_Mod_sort_25 : decode M_Mod_sort.2.1 25 = .ok (.if_icmp .eq 16, 3) := by decide +kernel
theorem d_Mod_sort_28 : decode M_Mod_sort.2.1 28 = .ok (.aload_n 0, 1) := by decide +kernel
theorem d_Mod_sort_29 : decode M_Mod_sort.2.1 29 = .ok (.iload_n 3, 1) := by decide +kernel
theorem d_Mod_sort_30 : decode M_Mod_sort.2.1 30 = .ok (.iload_n 1, 1) := by decide +kernel
theorem d_Mod_sort_31 : decode M_Mod_sort.2.1 31 = .ok (.invokevirtual 101, 3) := by decide +kernel
theorem d_Mod_sort_34 : decode M_Mod_sort.2.1 34 = .ok (.ifCond .eq 7, 3) := by decide +kernel
theorem d_Mod_sort_37 : decode M_Mod_sort.2.1 37 = .ok (.iconst 1, 1) := by decide +kernel
theorem d_Mod_sort_38 : decode M_Mod_sort.2.1 38 = .ok (.goto 4, 3) := by decide +kernel
theorem d_Mod_sort_41 : decode M_Mod_sort.2.1 41 = .ok (.iconst 0, 1) := by decide +kernel
theorem d_Mod_sort_42 : decode M_Mod_sort.2.1 42 = .ok (.iadd, 1) := by decide +kernel
theorem d_Mod_sort_43 : decode M_Mod_sort.2.1 43 = .ok (.istore_n 2, 1) := by decide +kernel
theorem d_Mod_sort_44 : decode M_Mod_sort.2.1 44 = .ok (.iinc 3 1, 3) := by decide +kernel
theorem d_Mod_sort_47 : decode M_Mod_sort.2.1 47 = .ok (.goto (-33), 3) := by decide +kernel
theorem d_Mod_sort_50 : decode M_Mod_sort.2.1 50 = .ok (.aload_n 0, 1) := by decide +kernel
theorem d_Mod_sort_51 : decode M_Mod_sort.2.1 51 = .ok (.getfield 29, 3) := by decide +kernel
theorem d_Mod_sort_54 : decode M_Mod_sort.2.1 54 = .ok (.iload_n 2, 1) := by decide +kernel
theorem d_Mod_sort_55 : decode M_Mod_sort.2.1 55 = .ok (.aload_n 0, 1) := by decide +kernel
theorem d_Mod_sort_56 : decode M_Mod_sort.2.1 56 = .ok (.getfield 26, 3) := by decide +kernel
theorem d_Mod_sort_59 : decode M_Mod_sort.2.1 59 = .ok (.iload_n 1, 1) := by decide +kernel
theorem d_Mod_sort_60 : decode M_Mod_sort.2.1 60 = .ok (.aload_n 0, 1) := by decide +kernel
theorem d_Mod_sort_61 : decode M_Mod_sort.2.1 61 = .ok (.getfield 98, 3) := by decide +kernel
theorem d_Mod_sort_64 : decode M_Mod_sort.2.1 64 = .ok (.iadd, 1) := by decide +kernel
theorem d_Mod_sort_65 : decode M_Mod_sort.2.1 65 = .ok (.iconst 1, 1) := by decide +kernel
theorem d_Mod_sort_66 : decode M_Mod_sort.2.1 66 = .ok (.isub, 1) := by decide +kernel
theorem d_Mod_sort_67 : decode M_Mod_sort.2.1 67 = .ok (.aload_n 0, 1) := by decide +kernel
theorem d_Mod_sort_68 : decode M_Mod_sort.2.1 68 = .ok (.getfield 98, 3) := by decide +kernel
theorem d_Mod_sort_71 : decode M_Mod_sort.2.1 71 = .ok (.irem, 1) := by decide +kernel
theorem d_Mod_sort_72 : decode M_Mod_sort.2.1 72 = .ok (.iaload, 1) := by decide +kernel
theorem d_Mod_sort_73 : decode M_Mod_sort.2.1 73 = .ok (.iastore, 1) := by decide +kernel
theorem d_Mod_sort_74 : decode M_Mod_sort.2.1 74 = .ok (.aload_n 0, 1) := by decide +kernel
theorem d_Mod_sort_75 : decode M_Mod_sort.2.1 75 = .ok (.iload_n 1, 1) := by decide +kernel
theorem d_Mod_sort_76 : decode M_Mod_sort.2.1 76 = .ok (.ifCond .ne 7, 3) := by decide +kernel
theorem d_Mod_sort_79 : decode M_Mod_sort.2.1 79 = .ok (.iload_n 2, 1) := by decide +kernel
theorem d_Mod_sort_80 : decode M_Mod_sort.2.1 80 = .ok (.goto 7, 3) := by decide +kernel
theorem d_Mod_sort_83 : decode M_Mod_sort.2.1 83 = .ok (.aload_n 0, 1) := by decide +kernel
theorem d_Mod_sort_84 : decode M_Mod_sort.2.1 84 = .ok (.getfield 105, 3) := by decide +kernel
theorem d_Mod_sort_87 : decode M_Mod_sort.2.1 87 = .ok (.putfield 105, 3) := by decide +kernel
theorem d_Mod_sort_90 : decode M_Mod_sort.2.1 90 = .ok (.iinc 1 1, 3) := by decide +kernel
theorem d_Mod_sort_93 : decode M_Mod_sort.2.1 93 = .ok (.goto (-91), 3) := by decide +kernel
theorem d_Mod_sort_96 : decode M_Mod_sort.2.1 96 = .ok (.return_, 1) := by decide +kernel
theorem d_Mod_unsort_0 : decode M_Mod_unsort.2.1 0 = .ok (.iconst 0, 1) := by decide +kernel
theorem d_Mod_unsort_1 : decode M_Mod_unsort.2.1 1 = .ok (.istore_n 1, 1) := by decide +kernel
theorem d_Mod_unsort_2 : decode M_Mod_unsort.2.1 2 = .ok (.iload_n 1, 1) := by decide +kernel
theorem d_Mod_unsort_3 : decode M_Mod_unsort.2.1 3 = .ok (.aload_n 0, 1) := by decide +kernel
theorem d_Mod_unsort_4 : decode M_Mod_unsort.2.1 4 = .ok (.getfield 98, 3) := by decide +kernel
theorem d_Mod_unsort_7 : decode M_Mod_unsort.2.1 7 = .ok (.if_icmp .ge 77, 3) := by decide +kernel
theorem d_Mod_unsort_10 : decode M_Mod_unsort.2.1 10 = .ok (.iconst 0, 1) := by decide +kernel
theorem d_Mod_unsort_11 : decode M_Mod_unsort.2.1 11 = .ok (.istore_n 2, 1) := by decide +kernel
theorem d_Mod_unsort_12 : decode M_Mod_unsort.2.1 12 = .ok (.iconst 0, 1) := by decide +kernel
theorem d_Mod_unsort_13 : decode M_Mod_unsort.2.1 13 = .ok (.istore_n 3, 1) := by decide +kernel
theorem d_Mod_unsort_14 : decode M_Mod_unsort.2.1 14 = .ok (.iload_n 3, 1) := by decide +kernel
theorem d_Mod_unsort_15 : decode M_Mod_unsort.2.1 15 = .ok (.aload_n 0, 1) := by decide +kernel
theorem d_Mod_unsort_16 : decode M_Mod_unsort.2.1 16 = .ok (.getfield 98, 3) := by decide +kernel
theorem d_Mod_unsort_19 : decode M_Mod_unsort.2.1 19 = .ok (.if_icmp .ge 52, 3) := by decide +kernel
theorem d_Mod_unsort_22 : decode M_Mod_unsort.2.1 22 = .ok (.iload_n 2, 1) := by decide +kernel
theorem d_Mod_unsort_23 : decode M_Mod_unsort.2.1 23 = .ok (.aload_n 0, 1) := by decide +kernel
theorem d_Mod_unsort_24 : decode M_Mod_unsort.2.1 24 = .ok (.getfield 29, 3) := by decide +kernel
theorem d_Mod_unsort_27 : decode M_Mod_unsort.2.1 27 = .ok (.iload_n 3, 1) := by decide +kernel
theorem d_Mod_unsort_28 : decode M_Mod_unsort.2.1 28 = .ok (.iaload, 1) := by decide +kernel
theorem d_Mod_unsort_29 : decode M_Mod_unsort.2.1 29 = .ok (.aload_n 0, 1) := by decide +kernel
theorem d_Mod_unsort_30 : decode M_Mod_unsort.2.1 30 = .ok (.getfield 29, 3) := by decide +kernel
theorem d_Mod_unsort_33 : decode M_Mod_unsort.2.1 33 = .ok (.iload_n 1, 1) := by decide +kernel
theorem d_Mod_unsort_34 : decode M_Mod_unsort.2.1 34 = .ok (.iaload, 1) := by decide +kernel
theorem d_Mod_unsort_35 : decode M_Mod_unsort.2.1 35 = .ok (.if_icmp .lt 23, 3) := by decide +kernel
theorem d_Mod_unsort_38 : decode M_Mod_unsort.2.1 38 = .ok (.aload_n 0, 1) := by decide +kernel
theorem d_Mod_unsort_39 : decode M_Mod_unsort.2.1 39 = .ok (.getfield 29, 3) := by decide +kernel
theorem d_Mod_unsort_42 : decode M_Mod_unsort.2.1 42 = .ok (.iload_n 3, 1) := by decide +kernel
theorem d_Mod_unsort_43 : decode M_Mod_unsort.2.1 43 = .ok (.iaload, 1) := by decide +kernel
theorem d_Mod_unsort_44 : decode M_Mod_unsort.2.1 44 = .ok (.aload_n 0, 1) := by decide +kernel
theorem d_Mod_unsort_45 : decode M_Mod_unsort.2.1 45 = .ok (.getfield 29, 3) := by decide +kernel
theorem d_Mod_unsort_48 : decode M_Mod_unsort.2.1 48 = .ok (.iload_n 1, 1) := by decide +kernel
theorem d_Mod_unsort_49 : decode M_Mod_unsort.2.1 49 = .ok (.iaload, 1) := by decide +kernel
theorem d_Mod_unsort_50 : decode M_Mod_unsort.2.1 50 = .ok (.if_icmp .ne 12, 3) := by decide +kernel
theorem d_Mod_unsort_53 : decode M_Mod_unsort.2.1 53 = .ok (.iload_n 3, 1) := by decide +kernel
theorem d_Mod_unsort_54 : decode M_Mod_unsort.2.1 54 = .ok (.iload_n 1, 1) := by decide +kernel
theorem d_Mod_unsort_55 : decode M_Mod_unsort.2.1 55 = .ok (.if_icmp .ge 7, 3) := by decide +kernel
theorem d_Mod_unsort_58 : decode M_Mod_unsort.2.1 58 = .ok (.iconst 1, 1) := by decide +kernel
theorem d_Mod_unsort_59 : decode M_Mod_unsort.2.1 59 = .ok (.goto 4, 3) := by decide +kernel
theorem d_Mod_unsort_62 : decode M_Mod_unsort.2.1 62 = .ok (.iconst 0, 1) := by decide +kernel
theorem d_Mod_unsort_63 : decode M_Mod_unsort.2.1 63 = .ok (.iadd, 1) := by decide +kernel
theorem d_Mod_unsort_64 : decode M_Mod_unsort.2.1 64 = .ok (.istore_n 2, 1) := by decide +kernel
theorem d_Mod_unsort_65 : decode M_Mod_unsort.2.1 65 = .ok (.iinc 3 1, 3) := by decide +kernel
theorem d_Mod_unsort_68 : decode M_Mod_unsort.2.1 68 = .ok (.goto (-54), 3) := by decide +kernel
theorem d_Mod_unsort_71 : decode M_Mod_unsort.2.1 71 = .ok (.aload_n 0, 1) := by decide +kernel
theorem d_Mod_unsort_72 : decode M_Mod_unsort.2.1 72 = .ok (.getfield 54, 3) := by decide +kernel
theorem d_Mod_unsort_75 : decode M_Mod_unsort.2.1 75 = .ok (.iload_n 2, 1) := by decide +kernel
theorem d_Mod_unsort_76 : decode M_Mod_unsort.2.1 76 = .ok (.iload_n 1, 1) := by decide +kernel
theorem d_Mod_unsort_77 : decode M_Mod_unsort.2.1 77 = .ok (.iastore, 1) := by decide +kernel
theorem d_Mod_unsort_78 : decode M_Mod_unsort.2.1 78 = .ok (.iinc 1 1, 3) := by decide +kernel
theorem d_Mod_unsort_81 : decode M_Mod_unsort.2.1 81 = .ok (.goto (-79), 3) := by decide +kernel
theorem d_Mod_unsort_84 : decode M_Mod_unsort.2.1 84 = .ok (.aload_n 0, 1) := by decide +kernel
theorem d_Mod_unsort_85 : decode M_Mod_unsort.2.1 85 = .ok (.getfield 105, 3) := by decide +kernel
theorem d_Mod_unsort_88 : decode M_Mod_unsort.2.1 88 = .ok (.istore_n 1, 1) := by decide +kernel
theorem d_Mod_unsort_89 : decode M_Mod_unsort.2.1 89 = .ok (.iconst 0, 1) := by decide +kernel
theorem d_Mod_unsort_90 : decode M_Mod_unsort.2.1 90 = .ok (.istore_n 2, 1) := by decide +kernel
theorem d_Mod_unsort_91 : decode M_Mod_unsort.2.1 91 = .ok (.iload_n 2, 1) := by decide +kernel
theorem d_Mod_unsort_92 : decode M_Mod_unsort.2.1 92 = .ok (.aload_n 0, 1) := by decide +kernel
theorem d_Mod_unsort_93 : decode M_Mod_unsort.2.1 93 = .ok (.getfield 98, 3) := by decide +kernel
theorem d_Mod_unsort_96 : decode M_Mod_unsort.2.1 96 = .ok (.if_icmp .ge 28, 3) := by decide +kernel
theorem d_Mod_unsort_99 : decode M_Mod_unsort.2.1 99 = .ok (.aload_n 0, 1) := by decide +kernel
theorem d_Mod_unsort_100 : decode M_Mod_unsort.2.1 100 = .ok (.getfield 54, 3) := by decide +kernel
theorem d_Mod_unsort_103 : decode M_Mod_unsort.2.1 103 = .ok (.iload_n 1, 1) := by decide +kernel
theorem d_Mod_unsort_104 : decode M_Mod_unsort.2.1 104 = .ok (.iaload, 1) := by decide +kernel
theorem d_Mod_unsort_105 : decode M_Mod_unsort.2.1 105 = .ok (.istore_n 1, 1) := by decide +kernel
theorem d_Mod_unsort_106 : decode M_Mod_unsort.2.1 106 = .ok (.aload_n 0, 1) := by decide +kernel
theorem d_Mod_unsort_107 : decode M_Mod_unsort.2.1 107 = .ok (.getfield 26, 3) := by decide +kernel
theorem d_Mod_unsort_110 : decode M_Mod_unsort.2.1 110 = .ok (.iload_n 2, 1) := by decide +kernel
theorem d_Mod_unsort_111 : decode M_Mod_unsort.2.1 111 = .ok (.aload_n 0, 1) := by decide +kernel
theorem d_Mod_unsort_112 : decode M_Mod_unsort.2.1 112 = .ok (.getfield 29, 3) := by decide +kernel
theorem d_Mod_unsort_115 : decode M_Mod_unsort.2.1 115 = .ok (.iload_n 1, 1) := by decide +kernel
theorem d_Mod_unsort_116 : decode M_Mod_unsort.2.1 116 = .ok (.iaload, 1) := by decide +kernel
theorem d_Mod_unsort_117 : decode M_Mod_unsort.2.1 117 = .ok (.iastore, 1) := by decide +kernel
theorem d_Mod_unsort_118 : decode M_Mod_unsort.2.1 118 = .ok (.iinc 2 1, 3) := by decide +kernel
theorem d_Mod_unsort_121 : decode M_Mod_unsort.2.1 121 = .ok (.goto (-30), 3) := by decide +kernel
theorem d_Mod_unsort_124 : decode M_Mod_unsort.2.1 124 = .ok (.return_, 1) := by decide +kernel
theorem d_Mod_listUsed_0 : decode M_Mod_listUsed.2.1 0 = .ok (.aload_n 0, 1) := by decide +kernel
theorem d_Mod_listUsed_1 : decode M_Mod_listUsed.2.1 1 = .ok (.iconst 0, 1) := by decide +kernel
theorem d_Mod_listUsed_2 : decode M_Mod_listUsed.2.1 2 = .ok (.putfield 108, 3) := by decide +kernel
theorem d_Mod_listUsed_5 : decode M_Mod_listUsed.2.1 5 = .ok (.iconst 0, 1) := by decide +kernel
theorem d_Mod_listUsed_6 : decode M_Mod_listUsed.2.1 6 = .ok (.istore_n 1, 1) := by decide +kernel
theorem d_Mod_listUsed_7 : decode M_Mod_listUsed.2.1 7 = .ok (.iload_n 1, 1) := by decide +kernel
theorem d_Mod_listUsed_8 : decode M_Mod_listUsed.2.1 8 = .ok (.sipush 256, 3) := by decide +kernel
theorem d_Mod_listUsed_11 : decode M_Mod_listUsed.2.1 11 = .ok (.if_icmp .ge 38, 3) := by decide +kernel
theorem d_Mod_listUsed_14 : decode M_Mod_listUsed.2.1 14 = .ok (.aload_n 0, 1) := by decide +kernel
theorem d_Mod_listUsed_15 : decode M_Mod_listUsed.2.1 15 = .ok (.getfield 35, 3) := by decide +kernel
theorem d_Mod_listUsed_18 : decode M_Mod_listUsed.2.1 18 = .ok (.iload_n 1, 1) := by decide +kernel
theorem d_Mod_listUsed_19 : decode M_Mod_listUsed.2.1 19 = .ok (.baload, 1) := by decide +kernel
theorem d_Mod_listUsed_20 : decode M_Mod_listUsed.2.1 20 = .ok (.ifCond .eq 23, 3) := by decide +kernel
theorem d_Mod_listUsed_23 : decode M_Mod_listUsed.2.1 23 = .ok (.aload_n 0, 1) := by decide +kernel
theorem d_Mod_listUsed_24 : decode M_Mod_listUsed.2.1 24 = .ok (.getfield 39, 3) := by decide +kernel
theorem d_Mod_listUsed_27 : decode M_Mod_listUsed.2.1 27 = .ok (.aload_n 0, 1) := by decide +kernel
theorem d_Mod_listUsed_28 : decode M_Mod_listUsed.2.1 28 = .ok (.getfield 108, 3) := by decide +kernel
theorem d_Mod_listUsed_31 : decode M_Mod_listUsed.2.1 31 = .ok (.iload_n 1, 1) := by decide +kernel
theorem d_Mod_listUsed_32 : decode M_Mod_listUsed.2.1 32 = .ok (.iastore, 1) := by decide +kernel
theorem d_Mod_listUsed_33 : decode M_Mod_listUsed.2.1 33 = .ok (.aload_n 0, 1) := by decide +kernel
theorem d_Mod_listUsed_34 : decode M_Mod_listUsed.2.1 34 = .ok (.dup, 1) := by decide +kernel
theorem d_Mod_listUsed_35 : decode M_Mod_listUsed.2.1 35 = .ok (.getfield 108, 3) := by decide +kernel
theorem d_Mod_listUsed_38 : decode M_Mod_listUsed.2.1 38 = .ok (.iconst 1, 1) := by decide +kernel
theorem d_Mod_listUsed_39 : decode M_Mod_listUsed.2.1 39 = .ok (.iadd, 1) := by decide +kernel
theorem d_Mod_listUsed_40 : decode M_Mod_listUsed.2.1 40 = .ok (.putfield 108, 3) := by decide +kernel
theorem d_Mod_listUsed_43 : decode M_Mod_listUsed.2.1 43 = .ok (.iinc 1 1, 3) := by decide +kernel
theorem d_Mod_listUsed_46 : decode M_Mod_listUsed.2.1 46 = .ok (.goto (-39), 3) := by decide +kernel
theorem d_Mod_listUsed_49 : decode M_Mod_listUsed.2.1 49 = .ok (.return_, 1) := by decide +kernel
theorem d_Mod_toFront_0 : decode M_Mod_toFront.2.1 0 = .ok (.aload_n 0, 1) := by decide +kernel
theorem d_Mod_toFront_1 : decode M_Mod_toFront.2.1 1 = .ok (.getfield 39, 3) := by decide +kernel
theorem d_Mod_toFront_4 : decode M_Mod_toFront.2.1 4 = .ok (.iload_n 1, 1) := by decide +kernel
theorem d_Mod_toFront_5 : decode M_Mod_toFront.2.1 5 = .ok (.iaload, 1) := by decide +kernel
theorem d_Mod_toFront_6 : decode M_Mod_toFront.2.1 6 = .ok (.istore_n 2, 1) := by decide +kernel
theorem d_Mod_toFront_7 : decode M_Mod_toFront.2.1 7 = .ok (.iload_n 1, 1) := by decide +kernel
theorem d_Mod_toFront_8 : decode M_Mod_toFront.2.1 8 = .ok (.istore_n 3, 1) := by decide +kernel
theorem d_Mod_toFront_9 : decode M_Mod_toFront.2.1 9 = .ok (.iload_n 3, 1) := by decide +kernel
theorem d_Mod_toFront_10 : decode M_Mod_toFront.2.1 10 = .ok (.ifCond .le 23, 3) := by decide +kernel
theorem d_Mod_toFront_13 : decode M_Mod_toFront.2.1 13 = .ok (.aload_n 0, 1) := by decide +kernel
theorem d_Mod_toFront_14 : decode M_Mod_toFront.2.1 14 = .ok (.getfield 39, 3) := by decide +kernel
theorem d_Mod_toFront_17 : decode M_Mod_toFront.2.1 17 = .ok (.iload_n 3, 1) := by decide +kernel
theorem d_Mod_toFront_18 : decode M_Mod_toFront.2.1 18 = .ok (.aload_n 0, 1) := by decide +kernel
theorem d_Mod_toFront_19 : decode M_Mod_toFront.2.1 19 = .ok (.getfield 39, 3) := by decide +kernel
theorem d_Mod_toFront_22 : decode M_Mod_toFront.2.1 22 = .ok (.iload_n 3, 1) := by decide +kernel
theorem d_Mod_toFront_23 : decode M_Mod_toFront.2.1 23 = .ok (.iconst 1, 1) := by decide +kernel
theorem d_Mod_toFront_24 : decode M_Mod_toFront.2.1 24 = .ok (.isub, 1) := by decide +kernel
theorem d_Mod_toFront_25 : decode M_Mod_toFront.2.1 25 = .ok (.iaload, 1) := by decide +kernel
theorem d_Mod_toFront_26 : decode M_Mod_toFront.2.1 26 = .ok (.iastore, 1) := by decide +kernel
theorem d_Mod_toFront_27 : decode M_Mod_toFront.2.1 27 = .ok (.iinc 3 (-1), 3) := by decide +kernel
theorem d_Mod_toFront_30 : decode M_Mod_toFront.2.1 30 = .ok (.goto (-21), 3) := by decide +kernel
theorem d_Mod_toFront_33 : decode M_Mod_toFront.2.1 33 = .ok (.aload_n 0, 1) := by decide +kernel
theorem d_Mod_toFront_34 : decode M_Mod_toFront.2.1 34 = .ok (.getfield 39, 3) := by decide +kernel
theorem d_Mod_toFront_37 : decode M_Mod_toFront.2.1 37 = .ok (.iconst 0, 1) := by decide +kernel
theorem d_Mod_toFront_38 : decode M_Mod_toFront.2.1 38 = .ok (.iload_n 2, 1) := by decide +kernel
theorem d_Mod_toFront_39 : decode M_Mod_toFront.2.1 39 = .ok (.iastore, 1) := by decide +kernel
theorem d_Mod_toFront_40 : decode M_Mod_toFront.2.1 40 = .ok (.iload_n 2, 1) := by decide +kernel
theorem d_Mod_toFront_41 : decode M_Mod_toFront.2.1 41 = .ok (.ireturn, 1) := by decide +kernel
theorem d_Mod_addSymbol_0 : decode M_Mod_addSymbol.2.1 0 = .ok (.aload_n 0, 1) := by decide +kernel
theorem d_Mod_addSymbol_1 : decode M_Mod_addSymbol.2.1 1 = .ok (.getfield 32, 3) := by decide +kernel
theorem d_Mod_addSymbol_4 : decode M_Mod_addSymbol.2.1 4 = .ok (.aload_n 0, 1) := by decide +kernel
theorem d_Mod_addSymbol_5 : decode M_Mod_addSymbol.2.1 5 = .ok (.getfield 111, 3) := by decide +kernel
theorem d_Mod_addSymbol_8 : decode M_Mod_addSymbol.2.1 8 = .ok (.iload_n 1, 1) := by decide +kernel
theorem d_Mod_addSymbol_9 : decode M_Mod_addSymbol.2.1 9 = .ok (.iastore, 1) := by decide +kernel
theorem d_Mod_addSymbol_10 : decode M_Mod_addSymbol.2.1 10 = .ok (.aload_n 0, 1) := by decide +kernel
theorem d_Mod_addSymbol_11 : decode M_Mod_addSymbol.2.1 11 = .ok (.dup, 1) := by decide +kernel
theorem d_Mod_addSymbol_12 : decode M_Mod_addSymbol.2.1 12 = .ok (.getfield 111, 3) := by decide +kernel
theorem d_Mod_addSymbol_15 : decode M_Mod_addSymbol.2.1 15 = .ok (.iconst 1, 1) := by decide +kernel
theorem d_Mod_addSymbol_16 : decode M_Mod_addSymbol.2.1 16 = .ok (.iadd, 1) := by decide +kernel
theorem d_Mod_addSymbol_17 : decode M_Mod_addSymbol.2.1 17 = .ok (.putfield 111, 3) := by decide +kernel
theorem d_Mod_addSymbol_20 : decode M_Mod_addSymbol.2.1 20 = .ok (.return_, 1) := by decide +kernel
theorem d_Mod_addRun_0 : decode M_Mod_addRun.2.1 0 = .ok (.iload_n 1, 1) := by decide +kernel
theorem d_Mod_addRun_1 : decode M_Mod_addRun.2.1 1 = .ok (.istore_n 2, 1) := by decide +kernel
theorem d_Mod_addRun_2 : decode M_Mod_addRun.2.1 2 = .ok (.iload_n 2, 1) := by decide +kernel
theorem d_Mod_addRun_3 : decode M_Mod_addRun.2.1 3 = .ok (.ifCond .le 32, 3) := by decide +kernel
theorem d_Mod_addRun_6 : decode M_Mod_addRun.2.1 6 = .ok (.iload_n 2, 1) := by decide +kernel
theorem d_Mod_addRun_7 : decode M_Mod_addRun.2.1 7 = .ok (.iconst 2, 1) := by decide +kernel
theorem d_Mod_addRun_8 : decode M_Mod_addRun.2.1 8 = .ok (.irem, 1) := by decide +kernel
theorem d_Mod_addRun_9 : decode M_Mod_addRun.2.1 9 = .ok (.iconst 1, 1) := by decide +kernel
theorem d_Mod_addRun_10 : decode M_Mod_addRun.2.1 10 = .ok (.if_icmp .ne 7, 3) := by decide +kernel
theorem d_Mod_addRun_13 : decode M_Mod_addRun.2.1 13 = .ok (.iconst 0, 1) := by decide +kernel
theorem d_Mod_addRun_14 : decode M_Mod_addRun.2.1 14 = .ok (.goto 4, 3) := by decide +kernel
theorem d_Mod_addRun_17 : decode M_Mod_addRun.2.1 17 = .ok (.iconst 1, 1) := by decide +kernel
theorem d_Mod_addRun_18 : decode M_Mod_addRun.2.1 18 = .ok (.istore_n 3, 1) := by decide +kernel
theorem d_Mod_addRun_19 : decode M_Mod_addRun.2.1 19 = .ok (.aload_n 0, 1) := by decide +kernel
theorem d_Mod_addRun_20 : decode M_Mod_addRun.2.1 20 = .ok (.iload_n 3, 1) := by decide +kernel
theorem d_Mod_addRun_21 : decode M_Mod_addRun.2.1 21 = .ok (.invokevirtual 114, 3) := by decide +kernel
theorem d_Mod_addRun_24 : decode M_Mod_addRun.2.1 24 = .ok (.iload_n 2, 1) := by decide +kernel
theorem d_Mod_addRun_25 : decode M_Mod_addRun.2.1 25 = .ok (.iconst 1, 1) := by decide +kernel
theorem d_Mod_addRun_26 : decode M_Mod_addRun.2.1 26 = .ok (.isub, 1) := by decide +kernel
theorem d_Mod_addRun_27 : decode M_Mod_addRun.2.1 27 = .ok (.iload_n 3, 1) := by decide +kernel
theorem d_Mod_addRun_28 : decode M_Mod_addRun.2.1 28 = .ok (.isub, 1) := by decide +kernel
theorem d_Mod_addRun_29 : decode M_Mod_addRun.2.1 29 = .ok (.iconst 2, 1) := by decide +kernel
theorem d_Mod_addRun_30 : decode M_Mod_addRun.2.1 30 = .ok (.idiv, 1) := by decide +kernel
theorem d_Mod_addRun_31 : decode M_Mod_addRun.2.1 31 = .ok (.istore_n 2, 1) := by decide +kernel
theorem d_Mod_addRun_32 : decode M_Mod_addRun.2.1 32 = .ok (.goto (-30), 3) := by decide +kernel
theorem d_Mod_addRun_35 : decode M_Mod_addRun.2.1 35 = .ok (.return_, 1) := by decide +kernel
theorem d_Mod_makeSymbols_0 : decode M_Mod_makeSymbols.2.1 0 = .ok (.iconst 0, 1) := by decide +kernel
theorem d_Mod_makeSymbols_1 : decode M_Mod_makeSymbols.2.1 1 = .ok (.istore_n 1, 1) := by decide +kernel
theorem d_Mod_makeSymbols_2 : decode M_Mod_makeSymbols.2.1 2 = .ok (.iload_n 1, 1) := by decide +kernel
theorem d_Mod_makeSymbols_3 : decode M_Mod_makeSymbols.2.1 3 = .ok (.sipush 256, 3) := by decide +kernel
theorem d_Mod_makeSymbols_6 : decode M_Mod_makeSymbols.2.1 6 = .ok (.if_icmp .ge 16, 3) := by decide +kernel
theorem d_Mod_makeSymbols_9 : decode M_Mod_makeSymbols.2.1 9 = .ok (.aload_n 0, 1) := by decide +kernel
theorem d_Mod_makeSymbols_10 : decode M_Mod_makeSymbols.2.1 10 = .ok (.getfield 35, 3) := by decide +kernel
theorem d_Mod_makeSymbols_13 : decode M_Mod_makeSymbols.2.1 13 = .ok (.iload_n 1, 1) := by decide +kernel
theorem d_Mod_makeSymbols_14 : decode M_Mod_makeSymbols.2.1 14 = .ok (.iconst 0, 1) := by decide +kernel
theorem d_Mod_makeSymbols_15 : decode M_Mod_makeSymbols.2.1 15 = .ok (.bastore, 1) := by decide +kernel
theorem d_Mod_makeSymbols_16 : decode M_Mod_makeSymbols.2.1 16 = .ok (.iinc 1 1, 3) := by decide +kernel
theorem d_Mod_makeSymbols_19 : decode M_Mod_makeSymbols.2.1 19 = .ok (.goto (-17), 3) := by decide +kernel
theorem d_Mod_makeSymbols_22 : decode M_Mod_makeSymbols.2.1 22 = .ok (.iconst 0, 1) := by decide +kernel
theorem d_Mod_makeSymbols_23 : decode M_Mod_makeSymbols.2.1 23 = .ok (.istore_n 1, 1) := by decide +kernel
theorem d_Mod_makeSymbols_24 : decode M_Mod_makeSymbols.2.1 24 = .ok (.iload_n 1, 1) := by decide +kernel
theorem d_Mod_makeSymbols_25 : decode M_Mod_makeSymbols.2.1 25 = .ok (.aload_n 0, 1) := by decide +kernel
theorem d_Mod_makeSymbols_26 : decode M_Mod_makeSymbols.2.1 26 = .ok (.getfield 98, 3) := by decide +kernel
theorem d_Mod_makeSymbols_29 : decode M_Mod_makeSymbols.2.1 29 = .ok (.if_icmp .ge 21, 3) := by decide +kernel
theorem d_Mod_makeSymbols_32 : decode M_Mod_makeSymbols.2.1 32 = .ok (.aload_n 0, 1) := by decide +kernel
theorem d_Mod_makeSymbols_33 : decode M_Mod_makeSymbols.2.1 33 = .ok (.getfield 35, 3) := by decide +kernel
theorem d_Mod_makeSymbols_36 : decode M_Mod_makeSymbols.2.1 36 = .ok (.aload_n 0, 1) := by decide +kernel
theorem d_Mod_makeSymbols_37 : decode M_Mod_makeSymbols.2.1 37 = .ok (.getfield 26, 3) := by decide +kernel
theorem d_Mod_makeSymbols_40 : decode M_Mod_makeSymbols.2.1 40 = .ok (.iload_n 1, 1) := by decide +kernel
theorem d_Mod_makeSymbols_41 : decode M_Mod_makeSymbols.2.1 41 = .ok (.iaload, 1) := by decide +kernel
theorem d_Mod_makeSymbols_42 : decode M_Mod_makeSymbols.2.1 42 = .ok (.iconst 1, 1) := by decide +kernel
theorem d_Mod_makeSymbols_43 : decode M_Mod_makeSymbols.2.1 43 = .ok (.bastore, 1) := by decide +kernel
theorem d_Mod_makeSymbols_44 : decode M_Mod_makeSymbols.2.1 44 = .ok (.iinc 1 1, 3) := by decide +kernel
theorem d_Mod_makeSymbols_47 : decode M_Mod_makeSymbols.2.1 47 = .ok (.goto (-23), 3) := by decide +kernel
theorem d_Mod_makeSymbols_50 : decode M_Mod_makeSymbols.2.1 50 = .ok (.aload_n 0, 1) := by decide +kernel
theorem d_Mod_makeSymbols_51 : decode M_Mod_makeSymbols.2.1 51 = .ok (.invokevirtual 118, 3) := by decide +kernel
theorem d_Mod_makeSymbols_54 : decode M_Mod_makeSymbols.2.1 54 = .ok (.aload_n 0, 1) := by decide +kernel
theorem d_Mod_makeSymbols_55 : decode M_Mod_makeSymbols.2.1 55 = .ok (.iconst 0, 1) := by decide +kernel
theorem d_Mod_makeSymbols_56 : decode M_Mod_makeSymbols.2.1 56 = .ok (.putfield 111, 3) := by decide +kernel
theorem d_Mod_makeSymbols_59 : decode M_Mod_makeSymbols.2.1 59 = .ok (.iconst 0, 1) := by decide +kernel
theorem d_Mod_makeSymbols_60 : decode M_Mod_makeSymbols.2.1 60 = .ok (.istore_n 1, 1) := by decide +kernel
theorem d_Mod_makeSymbols_61 : decode M_Mod_makeSymbols.2.1 61 = .ok (.iconst 0, 1) := by decide +kernel
theorem d_Mod_makeSymbols_62 : decode M_Mod_makeSymbols.2.1 62 = .ok (.istore_n 2, 1) := by decide +kernel
theorem d_Mod_makeSymbols_63 : decode M_Mod_makeSymbols.2.1 63 = .ok (.iload_n 2, 1) := by decide +kernel
theorem d_Mod_makeSymbols_64 : decode M_Mod_makeSymbols.2.1 64 = .ok (.aload_n 0, 1) := by decide +kernel
theorem d_Mod_makeSymbols_65 : decode M_Mod_makeSymbols.2.1 65 = .ok (.getfield 98, 3) := by decide +kernel
theorem d_Mod_makeSymbols_68 : decode M_Mod_makeSymbols.2.1 68 = .ok (.if_icmp .ge 73, 3) := by decide +kernel
theorem d_Mod_makeSymbols_71 : decode M_Mod_makeSymbols.2.1 71 = .ok (.iconst 0, 1) := by decide +kernel
theorem d_Mod_makeSymbols_72 : decode M_Mod_makeSymbols.2.1 72 = .ok (.istore_n 3, 1) := by decide +kernel
theorem d_Mod_makeSymbols_73 : decode M_Mod_makeSymbols.2.1 73 = .ok (.aload_n 0, 1) := by decide +kernel
theorem d_Mod_makeSymbols_74 : decode M_Mod_makeSymbols.2.1 74 = .ok (.getfield 39, 3) := by decide +kernel
theorem d_Mod_makeSymbols_77 : decode M_Mod_makeSymbols.2.1 77 = .ok (.iload_n 3, 1) := by decide +kernel
theorem d_Mod_makeSymbols_78 : decode M_Mod_makeSymbols.2.1 78 = .ok (.iaload, 1) := by decide +kernel
theorem d_Mod_makeSymbols_79 : decode M_Mod_makeSymbols.2.1 79 = .ok (.aload_n 0, 1) := by decide +kernel
theorem d_Mod_makeSymbols_80 : decode M_Mod_makeSymbols.2.1 80 = .ok (.getfield 29, 3) := by decide +kernel
theorem d_Mod_makeSymbols_83 : decode M_Mod_makeSymbols.2.1 83 = .ok (.iload_n 2, 1) := by decide +kernel
theorem d_Mod_makeSymbols_84 : decode M_Mod_makeSymbols.2.1 84 = .ok (.iaload, 1) := by decide +kernel
theorem d_Mod_makeSymbols_85 : decode M_Mod_makeSymbols.2.1 85 = .ok (.if_icmp .eq 9, 3) := by decide +kernel
theorem d_Mod_makeSymbols_88 : decode M_Mod_makeSymbols.2.1 88 = .ok (.iinc 3 1, 3) := by decide +kernel
theorem d_Mod_makeSymbols_91 : decode M_Mod_makeSymbols.2.1 91 = .ok (.goto (-18), 3) := by decide +kernel
theorem d_Mod_makeSymbols_94 : decode M_Mod_makeSymbols.2.1 94 = .ok (.aload_n 0, 1) := by decide +kernel
theorem d_Mod_makeSymbols_95 : decode M_Mod_makeSymbols.2.1 95 = .ok (.iload_n 3, 1) := by decide +kernel
theorem d_Mod_makeSymbols_96 : decode M_Mod_makeSymbols.2.1 96 = .ok (.invokevirtual 121, 3) := by decide +kernel
theorem d_Mod_makeSymbols_99 : decode M_Mod_makeSymbols.2.1 99 = .ok (.istore 4, 2) := by decide +kernel
theorem d_Mod_makeSymbols_101 : decode M_Mod_makeSymbols.2.1 101 = .ok (.iload_n 3, 1) := by decide +kernel
theorem d_Mod_makeSymbols_102 : decode M_Mod_makeSymbols.2.1 102 = .ok (.ifCond .ne 19, 3) := by decide +kernel
theorem d_Mod_makeSymbols_105 : decode M_Mod_makeSymbols.2.1 105 = .ok (.iload_n 1, 1) := by decide +kernel
theorem d_Mod_makeSymbols_106 : decode M_Mod_makeSymbols.2.1 106 = .ok (.iload 4, 2) := by decide +kernel
theorem d_Mod_makeSymbols_108 : decode M_Mod_makeSymbols.2.1 108 = .ok (.ifCond .lt 7, 3) := by decide +kernel
theorem d_Mod_makeSymbols_111 : decode M_Mod_makeSymbols.2.1 111 = .ok (.iconst 1, 1) := by decide +kernel
theorem d_Mod_makeSymbols_112 : decode M_Mod_makeSymbols.2.1 112 = .ok (.goto 4, 3) := by decide +kernel
theorem d_Mod_makeSymbols_115 : decode M_Mod_makeSymbols.2.1 115 = .ok (.iconst 0, 1) := by decide +kernel
theorem d_Mod_makeSymbols_116 : decode M_Mod_makeSymbols.2.1 116 = .ok (.iadd, 1) := by decide +kernel
theorem d_Mod_makeSymbols_117 : decode M_Mod_makeSymbols.2.1 117 = .ok (.istore_n 1, 1) := by decide +kernel
theorem d_Mod_makeSymbols_118 : decode M_Mod_makeSymbols.2.1 118 = .ok (.goto 17, 3) := by decide +kernel
theorem d_Mod_makeSymbols_121 : decode M_Mod_makeSymbols.2.1 121 = .ok (.aload_n 0, 1) := by decide +kernel
theorem d_Mod_makeSymbols_122 : decode M_Mod_makeSymbols.2.1 122 = .ok (.iload_n 1, 1) := by decide +kernel
theorem d_Mod_makeSymbols_123 : decode M_Mod_makeSymbols.2.1 123 = .ok (.invokevirtual 125, 3) := by decide +kernel
theorem d_Mod_makeSymbols_126 : decode M_Mod_makeSymbols.2.1 126 = .ok (.iconst 0, 1) := by decide +kernel
theorem d_Mod_makeSymbols_127 : decode M_Mod_makeSymbols.2.1 127 = .ok (.istore_n 1, 1) := by decide +kernel
theorem d_Mod_makeSymbols_128 : decode M_Mod_makeSymbols.2.1 128 = .ok (.aload_n 0, 1) := by decide +kernel
theorem d_Mod_makeSymbols_129 : decode M_Mod_makeSymbols.2.1 129 = .ok (.iload_n 3, 1) := by decide +kernel
theorem d_Mod_makeSymbols_130 : decode M_Mod_makeSymbols.2.1 130 = .ok (.iconst 1, 1) := by decide +kernel
theorem d_Mod_makeSymbols_131 : decode M_Mod_makeSymbols.2.1 131 = .ok (.iadd, 1) := by decide +kernel
theorem d_Mod_makeSymbols_132 : decode M_Mod_makeSymbols.2.1 132 = .ok (.invokevirtual 114, 3) := by decide +kernel
theorem d_Mod_makeSymbols_135 : decode M_Mod_makeSymbols.2.1 135 = .ok (.iinc 2 1, 3) := by decide +kernel
theorem d_Mod_makeSymbols_138 : decode M_Mod_makeSymbols.2.1 138 = .ok (.goto (-75), 3) := by decide +kernel
theorem d_Mod_makeSymbols_141 : decode M_Mod_makeSymbols.2.1 141 = .ok (.aload_n 0, 1) := by decide +kernel
theorem d_Mod_makeSymbols_142 : decode M_Mod_makeSymbols.2.1 142 = .ok (.iload_n 1, 1) := by decide +kernel
theorem d_Mod_makeSymbols_143 : decode M_Mod_makeSymbols.2.1 143 = .ok (.invokevirtual 125, 3) := by decide +kernel
theorem d_Mod_makeSymbols_146 : decode M_Mod_makeSymbols.2.1 146 = .ok (.aload_n 0, 1) := by decide +kernel
theorem d_Mod_makeSymbols_147 : decode M_Mod_makeSymbols.2.1 147 = .ok (.aload_n 0, 1) := by decide +kernel
theorem d_Mod_makeSymbols_148 : decode M_Mod_makeSymbols.2.1 148 = .ok (.getfield 108, 3) := by decide +kernel
theorem d_Mod_makeSymbols_151 : decode M_Mod_makeSymbols.2.1 151 = .ok (.iconst 1, 1) := by decide +kernel
theorem d_Mod_makeSymbols_152 : decode M_Mod_makeSymbols.2.1 152 = .ok (.iadd, 1) := by decide +kernel
theorem d_Mod_makeSymbols_153 : decode M_Mod_makeSymbols.2.1 153 = .ok (.invokevirtual 114, 3) := by decide +kernel
theorem d_Mod_makeSymbols_156 : decode M_Mod_makeSymbols.2.1 156 = .ok (.return_, 1) := by decide +kernel
theorem d_Mod_firstTree_0 : decode M_Mod_firstTree.2.1 0 = .ok (.iconst (-1), 1) := by decide +kernel
theorem d_Mod_firstTree_1 : decode M_Mod_firstTree.2.1 1 = .ok (.istore_n 3, 1) := by decide +kernel
theorem d_Mod_firstTree_2 : decode M_Mod_firstTree.2.1 2 = .ok (.iconst 0, 1) := by decide +kernel
theorem d_Mod_firstTree_3 : decode M_Mod_firstTree.2.1 3 = .ok (.istore 4, 2) := by decide +kernel
theorem d_Mod_firstTree_5 : decode M_Mod_firstTree.2.1 5 = .ok (.iload 4, 2) := by decide +kernel
theorem d_Mod_firstTree_7 : decode M_Mod_firstTree.2.1 7 = .ok (.iload_n 1, 1) := by decide +kernel
theorem d_Mod_firstTree_8 : decode M_Mod_firstTree.2.1 8 = .ok (.if_icmp .ge 48, 3) := by decide +kernel
theorem d_Mod_firstTree_11 : decode M_Mod_firstTree.2.1 11 = .ok (.aload_n 0, 1) := by decide +kernel
theorem d_Mod_firstTree_12 : decode M_Mod_firstTree.2.1 12 = .ok (.getfield 60, 3) := by decide +kernel
theorem d_Mod_firstTree_15 : decode M_Mod_firstTree.2.1 15 = .ok (.iload 4, 2) := by decide +kernel
theorem d_Mod_firstTree_17 : decode M_Mod_firstTree.2.1 17 = .ok (.iaload, 1) := by decide +kernel
theorem d_Mod_firstTree_18 : decode M_Mod_firstTree.2.1 18 = .ok (.ifCond .ge 32, 3) := by decide +kernel
theorem d_Mod_firstTree_21 : decode M_Mod_firstTree.2.1 21 = .ok (.iload 4, 2) := by decide +kernel
theorem d_Mod_firstTree_23 : decode M_Mod_firstTree.2.1 23 = .ok (.iload_n 2, 1) := by decide +kernel
theorem d_Mod_firstTree_24 : decode M_Mod_firstTree.2.1 24 = .ok (.if_icmp .eq 26, 3) := by decide +kernel
theorem d_Mod_firstTree_27 : decode M_Mod_firstTree.2.1 27 = .ok (.iload_n 3, 1) := by decide +kernel
theorem d_Mod_firstTree_28 : decode M_Mod_firstTree.2.1 28 = .ok (.ifCond .lt 19, 3) := by decide +kernel
theorem d_Mod_firstTree_31 : decode M_Mod_firstTree.2.1 31 = .ok (.aload_n 0, 1) := by decide +kernel
theorem d_Mod_firstTree_32 : decode M_Mod_firstTree.2.1 32 = .ok (.getfield 57, 3) := by decide +kernel
theorem d_Mod_firstTree_35 : decode M_Mod_firstTree.2.1 35 = .ok (.iload 4, 2) := by decide +kernel
theorem d_Mod_firstTree_37 : decode M_Mod_firstTree.2.1 37 = .ok (.iaload, 1) := by decide +kernel
theorem d_Mod_firstTree_38 : decode M_Mod_firstTree.2.1 38 = .ok (.aload_n 0, 1) := by decide +kernel
theorem d_Mod_firstTree_39 : decode M_Mod_firstTree.2.1 39 = .ok (.getfield 57, 3) := by decide +kernel
theorem d_Mod_firstTree_42 : decode M_Mod_firstTree.2.1 42 = .ok (.iload_n 3, 1) := by decide +kernel
theorem d_Mod_firstTree_43 : decode M_Mod_firstTree.2.1 43 = .ok (.iaload, 1) := by decide +kernel
theorem d_Mod_firstTree_44 : decode M_Mod_firstTree.2.1 44 = .ok (.if_icmp .ge 6, 3) := by decide +kernel
theorem d_Mod_firstTree_47 : decode M_Mod_firstTree.2.1 47 = .ok (.iload 4, 2) := by decide +kernel
theorem d_Mod_firstTree_49 : decode M_Mod_firstTree.2.1 49 = .ok (.istore_n 3, 1) := by decide +kernel
theorem d_Mod_firstTree_50 : decode M_Mod_firstTree.2.1 50 = .ok (.iinc 4 1, 3) := by decide +kernel
theorem d_Mod_firstTree_53 : decode M_Mod_firstTree.2.1 53 = .ok (.goto (-48), 3) := by decide +kernel
theorem d_Mod_firstTree_56 : decode M_Mod_firstTree.2.1 56 = .ok (.iload_n 3, 1) := by decide +kernel
theorem d_Mod_firstTree_57 : decode M_Mod_firstTree.2.1 57 = .ok (.ireturn, 1) := by decide +kernel
theorem d_Mod_makeLengths_0 : decode M_Mod_makeLengths.2.1 0 = .ok (.aload_n 0, 1) := by decide +kernel
theorem d_Mod_makeLengths_1 : decode M_Mod_makeLengths.2.1 1 = .ok (.getfield 108, 3) := by decide +kernel
theorem d_Mod_makeLengths_4 : decode M_Mod_makeLengths.2.1 4 = .ok (.iconst 2, 1) := by decide +kernel
theorem d_Mod_makeLengths_5 : decode M_Mod_makeLengths.2.1 5 = .ok (.iadd, 1) := by decide +kernel
theorem d_Mod_makeLengths_6 : decode M_Mod_makeLengths.2.1 6 = .ok (.istore_n 2, 1) := by decide +kernel
theorem d_Mod_makeLengths_7 : decode M_Mod_makeLengths.2.1 7 = .ok (.iload_n 2, 1) := by decide +kernel
theorem d_Mod_makeLengths_8 : decode M_Mod_makeLengths.2.1 8 = .ok (.istore_n 3, 1) := by decide +kernel
theorem d_Mod_makeLengths_9 : decode M_Mod_makeLengths.2.1 9 = .ok (.iconst 0, 1) := by decide +kernel
theorem d_Mod_makeLengths_10 : decode M_Mod_makeLengths.2.1 10 = .ok (.istore 4, 2) := by decide +kernel
theorem d_Mod_makeLengths_12 : decode M_Mod_makeLengths.2.1 12 = .ok (.iload 4, 2) := by decide +kernel
theorem d_Mod_makeLengths_14 : decode M_Mod_makeLengths.2.1 14 = .ok (.iconst 2, 1) := by decide +kernel
theorem d_Mod_makeLengths_15 : decode M_Mod_makeLengths.2.1 15 = .ok (.iload_n 2, 1) := by decide +kernel
theorem d_Mod_makeLengths_16 : decode M_Mod_makeLengths.2.1 16 = .ok (.imul, 1) := by decide +kernel
theorem d_Mod_makeLengths_17 : decode M_Mod_makeLengths.2.1 17 = .ok (.if_icmp .ge 17, 3) := by decide +kernel
theorem d_Mod_makeLengths_20 : decode M_Mod_makeLengths.2.1 20 = .ok (.aload_n 0, 1) := by decide +kernel
theorem d_Mod_makeLengths_21 : decode M_Mod_makeLengths.2.1 21 = .ok (.getfield 60, 3) := by decide +kernel
theorem d_Mod_makeLengths_24 : decode M_Mod_makeLengths.2.1 24 = .ok (.iload 4, 2) := by decide +kernel
theorem d_Mod_makeLengths_26 : decode M_Mod_makeLengths.2.1 26 = .ok (.iconst (-1), 1) := by decide +kernel
theorem d_Mod_makeLengths_27 : decode M_Mod_makeLengths.2.1 27 = .ok (.iastore, 1) := by decide +kernel
theorem d_Mod_makeLengths_28 : decode M_Mod_makeLengths.2.1 28 = .ok (.iinc 4 1, 3) := by decide +kernel
theorem d_Mod_makeLengths_31 : decode M_Mod_makeLengths.2.1 31 = .ok (.goto (-19), 3) := by decide +kernel
theorem d_Mod_makeLengths_34 : decode M_Mod_makeLengths.2.1 34 = .ok (.iload_n 3, 1) := by decide +kernel
theorem d_Mod_makeLengths_35 : decode M_Mod_makeLengths.2.1 35 = .ok (.iconst 2, 1) := by decide +kernel
theorem d_Mod_makeLengths_36 : decode M_Mod_makeLengths.2.1 36 = .ok (.iload_n 2, 1) := by decide +kernel
theorem d_Mod_makeLengths_37 : decode M_Mod_makeLengths.2.1 37 = .ok (.imul, 1) := by decide +kernel
theorem d_Mod_makeLengths_38 : decode M_Mod_makeLengths.2.1 38 = .ok (.iconst 1, 1) := by decide +kernel
theorem d_Mod_makeLengths_39 : decode M_Mod_makeLengths.2.1 39 = .ok (.isub, 1) := by decide +kernel
theorem d_Mod_makeLengths_40 : decode M_Mod_makeLengths.2.1 40 = .ok (.if_icmp .ge 63, 3) := by decide +kernel
theorem d_Mod_makeLengths_43 : decode M_Mod_makeLengths.2.1 43 = .ok (.aload_n 0, 1) := by decide +kernel
theorem d_Mod_makeLengths_44 : decode M_Mod_makeLengths.2.1 44 = .ok (.iload_n 3, 1) := by decide +kernel
theorem d_Mod_makeLengths_45 : decode M_Mod_makeLengths.2.1 45 = .ok (.iconst (-1), 1) := by decide +kernel
theorem d_Mod_makeLengths_46 : decode M_Mod_makeLengths.2.1 46 = .ok (.invokevirtual 128, 3) := by decide +kernel
theorem d_Mod_makeLengths_49 : decode M_Mod_makeLengths.2.1 49 = .ok (.istore 4, 2) := by decide +kernel
theorem d_Mod_makeLengths_51 : decode M_Mod_makeLengths.2.1 51 = .ok (.aload_n 0, 1) := by decide +kernel
theorem d_Mod_makeLengths_52 : decode M_Mod_makeLengths.2.1 52 = .ok (.iload_n 3, 1) := by decide +kernel
theorem d_Mod_makeLengths_53 : decode M_Mod_makeLengths.2.1 53 = .ok (.iload 4, 2) := by decide +kernel
theorem d_Mod_makeLengths_55 : decode M_Mod_makeLengths.2.1 55 = .ok (.invokevirtual 128, 3) := by decide +kernel
theorem d_Mod_makeLengths_58 : decode M_Mod_makeLengths.2.1 58 = .ok (.istore 5, 2) := by decide +kernel
theorem d_Mod_makeLengths_60 : decode M_Mod_makeLengths.2.1 60 = .ok (.aload_n 0, 1) := by decide +kernel
theorem d_Mod_makeLengths_61 : decode M_Mod_makeLengths.2.1 61 = .ok (.getfield 57, 3) := by decide +kernel
theorem d_Mod_makeLengths_64 : decode M_Mod_makeLengths.2.1 64 = .ok (.iload_n 3, 1) := by decide +kernel
theorem d_Mod_makeLengths_65 : decode M_Mod_makeLengths.2.1 65 = .ok (.aload_n 0, 1) := by decide +kernel
theorem d_Mod_makeLengths_66 : decode M_Mod_makeLengths.2.1 66 = .ok (.getfield 57, 3) := by decide +kernel
theorem d_Mod_makeLengths_69 : decode M_Mod_makeLengths.2.1 69 = .ok (.iload 4, 2) := by decide +kernel
theorem d_Mod_makeLengths_71 : decode M_Mod_makeLengths.2.1 71 = .ok (.iaload, 1) := by decide +kernel
theorem d_Mod_makeLengths_72 : decode M_Mod_makeLengths.2.1 72 = .ok (.aload_n 0, 1) := by decide +kernel
theorem d_Mod_makeLengths_73 : decode M_Mod_makeLengths.2.1 73 = .ok (.getfield 57, 3) := by decide +kernel
theorem d_Mod_makeLengths_76 : decode M_Mod_makeLengths.2.1 76 = .ok (.iload 5, 2) := by decide +kernel
theorem d_Mod_makeLengths_78 : decode M_Mod_makeLengths.2.1 78 = .ok (.iaload, 1) := by decide +kernel
theorem d_Mod_makeLengths_79 : decode M_Mod_makeLengths.2.1 79 = .ok (.iadd, 1) := by decide +kernel
theorem d_Mod_makeLengths_80 : decode M_Mod_makeLengths.2.1 80 = .ok (.iastore, 1) := by decide +kernel
theorem d_Mod_makeLengths_81 : decode M_Mod_makeLengths.2.1 81 = .ok (.aload_n 0, 1) := by decide +kernel
theorem d_Mod_makeLengths_82 : decode M_Mod_makeLengths.2.1 82 = .ok (.getfield 60, 3) := by decide +kernel
theorem d_Mod_makeLengths_85 : decode M_Mod_makeLengths.2.1 85 = .ok (.iload 4, 2) := by decide +kernel
theorem d_Mod_makeLengths_87 : decode M_Mod_makeLengths.2.1 87 = .ok (.iload_n 3, 1) := by decide +kernel
theorem d_Mod_makeLengths_88 : decode M_Mod_makeLengths.2.1 88 = .ok (.iastore, 1) := by decide +kernel
theorem d_Mod_makeLengths_89 : decode M_Mod_makeLengths.2.1 89 = .ok (.aload_n 0, 1) := by decide +kernel
theorem d_Mod_makeLengths_90 : decode M_Mod_makeLengths.2.1 90 = .ok (.getfield 60, 3) := by decide +kernel
theorem d_Mod_makeLengths_93 : decode M_Mod_makeLengths.2.1 93 = .ok (.iload 5, 2) := by decide +kernel
theorem d_Mod_makeLengths_95 : decode M_Mod_makeLengths.2.1 95 = .ok (.iload_n 3, 1) := by decide +kernel
theorem d_Mod_makeLengths_96 : decode M_Mod_makeLengths.2.1 96 = .ok (.iastore, 1) := by decide +kernel
theorem d_Mod_makeLengths_97 : decode M_Mod_makeLengths.2.1 97 = .ok (.iinc 3 1, 3) := by decide +kernel
theorem d_Mod_makeLengths_100 : decode M_Mod_makeLengths.2.1 100 = .ok (.goto (-66), 3) := by decide +kernel
theorem d_Mod_makeLengths_103 : decode M_Mod_makeLengths.2.1 103 = .ok (.iconst 0, 1) := by decide +kernel
theorem d_Mod_makeLengths_104 : decode M_Mod_makeLengths.2.1 104 = .ok (.istore 4, 2) := by decide +kernel
theorem d_Mod_makeLengths_106 : decode M_Mod_makeLengths.2.1 106 = .ok (.iload 4, 2) := by decide +kernel
theorem d_Mod_makeLengths_108 : decode M_Mod_makeLengths.2.1 108 = .ok (.iload_n 2, 1) := by decide +kernel
theorem d_Mod_makeLengths_109 : decode M_Mod_makeLengths.2.1 109 = .ok (.if_icmp .ge 56, 3) := by decide +kernel
theorem d_Mod_makeLengths_112 : decode M_Mod_makeLengths.2.1 112 = .ok (.iconst 0, 1) := by decide +kernel
theorem d_Mod_makeLengths_113 : decode M_Mod_makeLengths.2.1 113 = .ok (.istore 5, 2) := by decide +kernel
theorem d_Mod_makeLengths_115 : decode M_Mod_makeLengths.2.1 115 = .ok (.aload_n 0, 1) := by decide +kernel
theorem d_Mod_makeLengths_116 : decode M_Mod_makeLengths.2.1 116 = .ok (.getfield 60, 3) := by decide +kernel
theorem d_Mod_makeLengths_119 : decode M_Mod_makeLengths.2.1 119 = .ok (.iload 4, 2) := by decide +kernel
theorem d_Mod_makeLengths_121 : decode M_Mod_makeLengths.2.1 121 = .ok (.iaload, 1) := by decide +kernel
theorem d_Mod_makeLengths_122 : decode M_Mod_makeLengths.2.1 122 = .ok (.istore 6, 2) := by decide +kernel
theorem d_Mod_makeLengths_124 : decode M_Mod_makeLengths.2.1 124 = .ok (.iload 6, 2) := by decide +kernel
theorem d_Mod_makeLengths_126 : decode M_Mod_makeLengths.2.1 126 = .ok (.ifCond .lt 18, 3) := by decide +kernel
theorem d_Mod_makeLengths_129 : decode M_Mod_makeLengths.2.1 129 = .ok (.iinc 5 1, 3) := by decide +kernel
theorem d_Mod_makeLengths_132 : decode M_Mod_makeLengths.2.1 132 = .ok (.aload_n 0, 1) := by decide +kernel
theorem d_Mod_makeLengths_133 : decode M_Mod_makeLengths.2.1 133 = .ok (.getfield 60, 3) := by decide +kernel
theorem d_Mod_makeLengths_136 : decode M_Mod_makeLengths.2.1 136 = .ok (.iload 6, 2) := by decide +kernel
theorem d_Mod_makeLengths_138 : decode M_Mod_makeLengths.2.1 138 = .ok (.iaload, 1) := by decide +kernel
theorem d_Mod_makeLengths_139 : decode M_Mod_makeLengths.2.1 139 = .ok (.istore 6, 2) := by decide +kernel
theorem d_Mod_makeLengths_141 : decode M_Mod_makeLengths.2.1 141 = .ok (.goto (-17), 3) := by decide +kernel
theorem d_Mod_makeLengths_144 : decode M_Mod_makeLengths.2.1 144 = .ok (.aload_n 0, 1) := by decide +kernel
theorem d_Mod_makeLengths_145 : decode M_Mod_makeLengths.2.1 145 = .ok (.getfield 42, 3) := by decide +kernel
theorem d_Mod_makeLengths_148 : decode M_Mod_makeLengths.2.1 148 = .ok (.sipush 260, 3) := by decide +kernel
theorem d_Mod_makeLengths_151 : decode M_Mod_makeLengths.2.1 151 = .ok (.iload_n 1, 1) := by decide +kernel
theorem d_Mod_makeLengths_152 : decode M_Mod_makeLengths.2.1 152 = .ok (.imul, 1) := by decide +kernel
theorem d_Mod_makeLengths_153 : decode M_Mod_makeLengths.2.1 153 = .ok (.iload 4, 2) := by decide +kernel
theorem d_Mod_makeLengths_155 : decode M_Mod_makeLengths.2.1 155 = .ok (.iadd, 1) := by decide +kernel
theorem d_Mod_makeLengths_156 : decode M_Mod_makeLengths.2.1 156 = .ok (.iload 5, 2) := by decide +kernel
theorem d_Mod_makeLengths_158 : decode M_Mod_makeLengths.2.1 158 = .ok (.iastore, 1) := by decide +kernel
theorem d_Mod_makeLengths_159 : decode M_Mod_makeLengths.2.1 159 = .ok (.iinc 4 1, 3) := by decide +kernel
theorem d_Mod_makeLengths_162 : decode M_Mod_makeLengths.2.1 162 = .ok (.goto (-56), 3) := by decide +kernel
theorem d_Mod_makeLengths_165 : decode M_Mod_makeLengths.2.1 165 = .ok (.return_, 1) := by decide +kernel
theorem d_Mod_makeCodes_0 : decode M_Mod_makeCodes.2.1 0 = .ok (.iconst (-1), 1) := by decide +kernel
theorem d_Mod_makeCodes_1 : decode M_Mod_makeCodes.2.1 1 = .ok (.istore_n 2, 1) := by decide +kernel
theorem d_Mod_makeCodes_2 : decode M_Mod_makeCodes.2.1 2 = .ok (.iconst 1, 1) := by decide +kernel
theorem d_Mod_makeCodes_3 : decode M_Mod_makeCodes.2.1 3 = .ok (.istore_n 3, 1) := by decide +kernel
theorem d_Mod_makeCodes_4 : decode M_Mod_makeCodes.2.1 4 = .ok (.iconst 1, 1) := by decide +kernel
theorem d_Mod_makeCodes_5 : decode M_Mod_makeCodes.2.1 5 = .ok (.istore 4, 2) := by decide +kernel
theorem d_Mod_makeCodes_7 : decode M_Mod_makeCodes.2.1 7 = .ok (.iload 4, 2) := by decide +kernel
theorem d_Mod_makeCodes_9 : decode M_Mod_makeCodes.2.1 9 = .ok (.bipush 12, 2) := by decide +kernel
theorem d_Mod_makeCodes_11 : decode M_Mod_makeCodes.2.1 11 = .ok (.if_icmp .gt 85, 3) := by decide +kernel
theorem d_Mod_makeCodes_14 : decode M_Mod_makeCodes.2.1 14 = .ok (.iconst 0, 1) := by decide +kernel
theorem d_Mod_makeCodes_15 : decode M_Mod_makeCodes.2.1 15 = .ok (.istore 5, 2) := by decide +kernel
theorem d_Mod_makeCodes_17 : decode M_Mod_makeCodes.2.1 17 = .ok (.iload 5, 2) := by decide +kernel
theorem d_Mod_makeCodes_19 : decode M_Mod_makeCodes.2.1 19 = .ok (.aload_n 0, 1) := by decide +kernel
theorem d_Mod_makeCodes_20 : decode M_Mod_makeCodes.2.1 20 = .ok (.getfield 108, 3) := by decide +kernel
theorem d_Mod_makeCodes_23 : decode M_Mod_makeCodes.2.1 23 = .ok (.iconst 2, 1) := by decide +kernel
theorem d_Mod_makeCodes_24 : decode M_Mod_makeCodes.2.1 24 = .ok (.iadd, 1) := by decide +kernel
theorem d_Mod_makeCodes_25 : decode M_Mod_makeCodes.2.1 25 = .ok (.if_icmp .ge 65, 3) := by decide +kernel
theorem d_Mod_makeCodes_28 : decode M_Mod_makeCodes.2.1 28 = .ok (.aload_n 0, 1) := by decide +kernel
theorem d_Mod_makeCodes_29 : decode M_Mod_makeCodes.2.1 29 = .ok (.getfield 42, 3) := by decide +kernel
theorem d_Mod_makeCodes_32 : decode M_Mod_makeCodes.2.1 32 = .ok (.sipush 260, 3) := by decide +kernel
theorem d_Mod_makeCodes_35 : decode M_Mod_makeCodes.2.1 35 = .ok (.iload_n 1, 1) := by decide +kernel
theorem d_Mod_makeCodes_36 : decode M_Mod_makeCodes.2.1 36 = .ok (.imul, 1) := by decide +kernel
theorem d_Mod_makeCodes_37 : decode M_Mod_makeCodes.2.1 37 = .ok (.iload 5, 2) := by decide +kernel
theorem d_Mod_makeCodes_39 : decode M_Mod_makeCodes.2.1 39 = .ok (.iadd, 1) := by decide +kernel
theorem d_Mod_makeCodes_40 : decode M_Mod_makeCodes.2.1 40 = .ok (.iaload, 1) := by decide +kernel
theorem d_Mod_makeCodes_41 : decode M_Mod_makeCodes.2.1 41 = .ok (.iload 4, 2) := by decide +kernel
theorem d_Mod_makeCodes_43 : decode M_Mod_makeCodes.2.1 43 = .ok (.if_icmp .ne 41, 3) := by decide +kernel
theorem d_Mod_makeCodes_46 : decode M_Mod_makeCodes.2.1 46 = .ok (.iload_n 2, 1) := by decide +kernel
theorem d_Mod_makeCodes_47 : decode M_Mod_makeCodes.2.1 47 = .ok (.ifCond .ge 7, 3) := by decide +kernel
theorem d_Mod_makeCodes_50 : decode M_Mod_makeCodes.2.1 50 = .ok (.iconst 0, 1) := by decide +kernel
theorem d_Mod_makeCodes_51 : decode M_Mod_makeCodes.2.1 51 = .ok (.goto 15, 3) := by decide +kernel
theorem d_Mod_makeCodes_54 : decode M_Mod_makeCodes.2.1 54 = .ok (.iload_n 2, 1) := by decide +kernel
theorem d_Mod_makeCodes_55 : decode M_Mod_makeCodes.2.1 55 = .ok (.iconst 1, 1) := by decide +kernel
theorem d_Mod_makeCodes_56 : decode M_Mod_makeCodes.2.1 56 = .ok (.iadd, 1) := by decide +kernel
theorem d_Mod_makeCodes_57 : decode M_Mod_makeCodes.2.1 57 = .ok (.iconst 1, 1) := by decide +kernel
theorem d_Mod_makeCodes_58 : decode M_Mod_makeCodes.2.1 58 = .ok (.iload_n 3, 1) := by decide +kernel
theorem d_Mod_makeCodes_59 : decode M_Mod_makeCodes.2.1 59 = .ok (.ishl, 1) := by decide +kernel
theorem d_Mod_makeCodes_60 : decode M_Mod_makeCodes.2.1 60 = .ok (.irem, 1) := by decide +kernel
theorem d_Mod_makeCodes_61 : decode M_Mod_makeCodes.2.1 61 = .ok (.iload 4, 2) := by decide +kernel
theorem d_Mod_makeCodes_63 : decode M_Mod_makeCodes.2.1 63 = .ok (.iload_n 3, 1) := by decide +kernel
theorem d_Mod_makeCodes_64 : decode M_Mod_makeCodes.2.1 64 = .ok (.isub, 1) := by decide +kernel
theorem d_Mod_makeCodes_65 : decode M_Mod_makeCodes.2.1 65 = .ok (.ishl, 1) := by decide +kernel
theorem d_Mod_makeCodes_66 : decode M_Mod_makeCodes.2.1 66 = .ok (.istore_n 2, 1) := by decide +kernel
theorem d_Mod_makeCodes_67 : decode M_Mod_makeCodes.2.1 67 = .ok (.iload 4, 2) := by decide +kernel
theorem d_Mod_makeCodes_69 : decode M_Mod_makeCodes.2.1 69 = .ok (.istore_n 3, 1) := by decide +kernel
theorem d_Mod_makeCodes_70 : decode M_Mod_makeCodes.2.1 70 = .ok (.aload_n 0, 1) := by decide +kernel
theorem d_Mod_makeCodes_71 : decode M_Mod_makeCodes.2.1 71 = .ok (.getfield 45, 3) := by decide +kernel
theorem d_Mod_makeCodes_74 : decode M_Mod_makeCodes.2.1 74 = .ok (.sipush 260, 3) := by decide +kernel
theorem d_Mod_makeCodes_77 : decode M_Mod_makeCodes.2.1 77 = .ok (.iload_n 1, 1) := by decide +kernel
theorem d_Mod_makeCodes_78 : decode M_Mod_makeCodes.2.1 78 = .ok (.imul, 1) := by decide +kernel
theorem d_Mod_makeCodes_79 : decode M_Mod_makeCodes.2.1 79 = .ok (.iload 5, 2) := by decide +kernel
theorem d_Mod_makeCodes_81 : decode M_Mod_makeCodes.2.1 81 = .ok (.iadd, 1) := by decide +kernel
theorem d_Mod_makeCodes_82 : decode M_Mod_makeCodes.2.1 82 = .ok (.iload_n 2, 1) := by decide +kernel
theorem d_Mod_makeCodes_83 : decode M_Mod_makeCodes.2.1 83 = .ok (.iastore, 1) := by decide +kernel
theorem d_Mod_makeCodes_84 : decode M_Mod_makeCodes.2.1 84 = .ok (.iinc 5 1, 3) := by decide +kernel
theorem d_Mod_makeCodes_87 : decode M_Mod_makeCodes.2.1 87 = .ok (.goto (-70), 3) := by decide +kernel
theorem d_Mod_makeCodes_90 : decode M_Mod_makeCodes.2.1 90 = .ok (.iinc 4 1, 3) := by decide +kernel
theorem d_Mod_makeCodes_93 : decode M_Mod_makeCodes.2.1 93 = .ok (.goto (-86), 3) := by decide +kernel
theorem d_Mod_makeCodes_96 : decode M_Mod_makeCodes.2.1 96 = .ok (.return_, 1) := by decide +kernel
theorem d_Mod_costOf_0 : decode M_Mod_costOf.2.1 0 = .ok (.iconst 0, 1) := by decide +kernel
theorem d_Mod_costOf_1 : decode M_Mod_costOf.2.1 1 = .ok (.istore_n 3, 1) := by decide +kernel
theorem d_Mod_costOf_2 : decode M_Mod_costOf.2.1 2 = .ok (.bipush 8, 2) := by decide +kernel
theorem d_Mod_costOf_4 : decode M_Mod_costOf.2.1 4 = .ok (.iload_n 1, 1) := by decide +kernel
theorem d_Mod_costOf_5 : decode M_Mod_costOf.2.1 5 = .ok (.imul, 1) := by decide +kernel
theorem d_Mod_costOf_6 : decode M_Mod_costOf.2.1 6 = .ok (.istore 4, 2) := by decide +kernel
theorem d_Mod_costOf_8 : decode M_Mod_costOf.2.1 8 = .ok (.iload 4, 2) := by decide +kernel
theorem d_Mod_costOf_10 : decode M_Mod_costOf.2.1 10 = .ok (.bipush 8, 2) := by decide +kernel
theorem d_Mod_costOf_12 : decode M_Mod_costOf.2.1 12 = .ok (.iload_n 1, 1) := by decide +kernel
theorem d_Mod_costOf_13 : decode M_Mod_costOf.2.1 13 = .ok (.imul, 1) := by decide +kernel
theorem d_Mod_costOf_14 : decode M_Mod_costOf.2.1 14 = .ok (.bipush 8, 2) := by decide +kernel
theorem d_Mod_costOf_16 : decode M_Mod_costOf.2.1 16 = .ok (.iadd, 1) := by decide +kernel
theorem d_Mod_costOf_17 : decode M_Mod_costOf.2.1 17 = .ok (.if_icmp .ge 39, 3) := by decide +kernel
theorem d_Mod_costOf_20 : decode M_Mod_costOf.2.1 20 = .ok (.iload 4, 2) := by decide +kernel
theorem d_Mod_costOf_22 : decode M_Mod_costOf.2.1 22 = .ok (.aload_n 0, 1) := by decide +kernel
theorem d_Mod_costOf_23 : decode M_Mod_costOf.2.1 23 = .ok (.getfield 111, 3) := by decide +kernel
theorem d_Mod_costOf_26 : decode M_Mod_costOf.2.1 26 = .ok (.if_icmp .ge 30, 3) := by decide +kernel
theorem d_Mod_costOf_29 : decode M_Mod_costOf.2.1 29 = .ok (.iload_n 3, 1) := by decide +kernel
theorem d_Mod_costOf_30 : decode M_Mod_costOf.2.1 30 = .ok (.aload_n 0, 1) := by decide +kernel
theorem d_Mod_costOf_31 : decode M_Mod_costOf.2.1 31 = .ok (.getfield 42, 3) := by decide +kernel
theorem d_Mod_costOf_34 : decode M_Mod_costOf.2.1 34 = .ok (.sipush 260, 3) := by decide +kernel
theorem d_Mod_costOf_37 : decode M_Mod_costOf.2.1 37 = .ok (.iload_n 2, 1) := by decide +kernel
theorem d_Mod_costOf_38 : decode M_Mod_costOf.2.1 38 = .ok (.imul, 1) := by decide +kernel
theorem d_Mod_costOf_39 : decode M_Mod_costOf.2.1 39 = .ok (.aload_n 0, 1) := by decide +kernel
theorem d_Mod_costOf_40 : decode M_Mod_costOf.2.1 40 = .ok (.getfield 32, 3) := by decide +kernel
theorem d_Mod_costOf_43 : decode M_Mod_costOf.2.1 43 = .ok (.iload 4, 2) := by decide +kernel
theorem d_Mod_costOf_45 : decode M_Mod_costOf.2.1 45 = .ok (.iaload, 1) := by decide +kernel
theorem d_Mod_costOf_46 : decode M_Mod_costOf.2.1 46 = .ok (.iadd, 1) := by decide +kernel
theorem d_Mod_costOf_47 : decode M_Mod_costOf.2.1 47 = .ok (.iaload, 1) := by decide +kernel
theorem d_Mod_costOf_48 : decode M_Mod_costOf.2.1 48 = .ok (.iadd, 1) := by decide +kernel
theorem d_Mod_costOf_49 : decode M_Mod_costOf.2.1 49 = .ok (.istore_n 3, 1) := by decide +kernel
theorem d_Mod_costOf_50 : decode M_Mod_costOf.2.1 50 = .ok (.iinc 4 1, 3) := by decide +kernel
theorem d_Mod_costOf_53 : decode M_Mod_costOf.2.1 53 = .ok (.goto (-45), 3) := by decide +kernel
theorem d_Mod_costOf_56 : decode M_Mod_costOf.2.1 56 = .ok (.iload_n 3, 1) := by decide +kernel
theorem d_Mod_costOf_57 : decode M_Mod_costOf.2.1 57 = .ok (.ireturn, 1) := by decide +kernel
theorem d_Mod_pick_0 : decode M_Mod_pick.2.1 0 = .ok (.aload_n 0, 1) := by decide +kernel
theorem d_Mod_pick_1 : decode M_Mod_pick.2.1 1 = .ok (.aload_n 0, 1) := by decide +kernel
theorem d_Mod_pick_2 : decode M_Mod_pick.2.1 2 = .ok (.getfield 111, 3) := by decide +kernel
theorem d_Mod_pick_5 : decode M_Mod_pick.2.1 5 = .ok (.bipush 7, 2) := by decide +kernel
theorem d_Mod_pick_7 : decode M_Mod_pick.2.1 7 = .ok (.iadd, 1) := by decide +kernel
theorem d_Mod_pick_8 : decode M_Mod_pick.2.1 8 = .ok (.bipush 8, 2) := by decide +kernel
theorem d_Mod_pick_10 : decode M_Mod_pick.2.1 10 = .ok (.idiv, 1) := by decide +kernel
theorem d_Mod_pick_11 : decode M_Mod_pick.2.1 11 = .ok (.putfield 131, 3) := by decide +kernel
theorem d_Mod_pick_14 : decode M_Mod_pick.2.1 14 = .ok (.aload_n 0, 1) := by decide +kernel
theorem d_Mod_pick_15 : decode M_Mod_pick.2.1 15 = .ok (.aload_n 0, 1) := by decide +kernel
theorem d_Mod_pick_16 : decode M_Mod_pick.2.1 16 = .ok (.getfield 131, 3) := by decide +kernel
theorem d_Mod_pick_19 : decode M_Mod_pick.2.1 19 = .ok (.iconst 4, 1) := by decide +kernel
theorem d_Mod_pick_20 : decode M_Mod_pick.2.1 20 = .ok (.if_icmp .le 7, 3) := by decide +kernel
theorem d_Mod_pick_23 : decode M_Mod_pick.2.1 23 = .ok (.iconst 3, 1) := by decide +kernel
theorem d_Mod_pick_24 : decode M_Mod_pick.2.1 24 = .ok (.goto 4, 3) := by decide +kernel
theorem d_Mod_pick_27 : decode M_Mod_pick.2.1 27 = .ok (.iconst 2, 1) := by decide +kernel
theorem d_Mod_pick_28 : decode M_Mod_pick.2.1 28 = .ok (.putfield 134, 3) := by decide +kernel
theorem d_Mod_pick_31 : decode M_Mod_pick.2.1 31 = .ok (.iconst 0, 1) := by decide +kernel
theorem d_Mod_pick_32 : decode M_Mod_pick.2.1 32 = .ok (.istore_n 1, 1) := by decide +kernel
theorem d_Mod_pick_33 : decode M_Mod_pick.2.1 33 = .ok (.iload_n 1, 1) := by decide +kernel
theorem d_Mod_pick_34 : decode M_Mod_pick.2.1 34 = .ok (.aload_n 0, 1) := by decide +kernel
