section
-- ===== PART A: goes FIRST, ahead of the names: the tables' words, and 'selects' of the private methods out of them =====
/-- a private method of a class that the tables say can be made, by its rows of tables_1 -/
def lw_okq (q : MethodName × Nat) : Prop := (q.1.cls ≠ "java/lang/invoke/MethodHandle" ∧ q.1.cls ≠ "java/lang/invoke/VarHandle") ∧ Cond.instantiable q.1.cls q.2 ∈ tables_1 ∧ Cond.privateMethod q.1 ∈ tables_1 ∧ Cond.instanceMethod q.1 ∈ tables_1
theorem lw_p0 : lw_okq (⟨"SortedBlocks$BlockReader", "readNumbers", "(LSortedBlocks$Block;)I"⟩, 6) := ⟨⟨by decide +kernel, by decide +kernel⟩, List.mem_of_getElem? (i := 73) (by decide +kernel), List.mem_of_getElem? (i := 396) (by decide +kernel), List.mem_of_getElem? (i := 397) (by decide +kernel)⟩
theorem lw_p1 : lw_okq (⟨"SortedBlocks$BlockReader", "readMap", "(LSortedBlocks$Block;)I"⟩, 6) := ⟨⟨by decide +kernel, by decide +kernel⟩, List.mem_of_getElem? (i := 73) (by decide +kernel), List.mem_of_getElem? (i := 408) (by decide +kernel), List.mem_of_getElem? (i := 409) (by decide +kernel)⟩
theorem lw_p2 : lw_okq (⟨"SortedBlocks$BlockReader", "readCounts", "(LSortedBlocks$Block;)I"⟩, 6) := ⟨⟨by decide +kernel, by decide +kernel⟩, List.mem_of_getElem? (i := 73) (by decide +kernel), List.mem_of_getElem? (i := 422) (by decide +kernel), List.mem_of_getElem? (i := 423) (by decide +kernel)⟩
theorem lw_p3 : lw_okq (⟨"SortedBlocks$BlockReader", "readPicks", "(LSortedBlocks$Block;)I"⟩, 6) := ⟨⟨by decide +kernel, by decide +kernel⟩, List.mem_of_getElem? (i := 73) (by decide +kernel), List.mem_of_getElem? (i := 426) (by decide +kernel), List.mem_of_getElem? (i := 427) (by decide +kernel)⟩
theorem lw_p4 : lw_okq (⟨"SortedBlocks$BlockReader", "readPick", "(I)I"⟩, 6) := ⟨⟨by decide +kernel, by decide +kernel⟩, List.mem_of_getElem? (i := 73) (by decide +kernel), List.mem_of_getElem? (i := 437) (by decide +kernel), List.mem_of_getElem? (i := 438) (by decide +kernel)⟩
theorem lw_p5 : lw_okq (⟨"SortedBlocks$BlockReader", "readTables", "(LSortedBlocks$Block;)I"⟩, 6) := ⟨⟨by decide +kernel, by decide +kernel⟩, List.mem_of_getElem? (i := 73) (by decide +kernel), List.mem_of_getElem? (i := 450) (by decide +kernel), List.mem_of_getElem? (i := 451) (by decide +kernel)⟩
theorem lw_p6 : lw_okq (⟨"SortedBlocks$BlockReader", "readLengths", "([II)I"⟩, 6) := ⟨⟨by decide +kernel, by decide +kernel⟩, List.mem_of_getElem? (i := 73) (by decide +kernel), List.mem_of_getElem? (i := 458) (by decide +kernel), List.mem_of_getElem? (i := 459) (by decide +kernel)⟩
theorem lw_p7 : lw_okq (⟨"SortedBlocks$BlockReader", "readLength", "(I)I"⟩, 6) := ⟨⟨by decide +kernel, by decide +kernel⟩, List.mem_of_getElem? (i := 73) (by decide +kernel), List.mem_of_getElem? (i := 465) (by decide +kernel), List.mem_of_getElem? (i := 466) (by decide +kernel)⟩
theorem lw_p8 : lw_okq (⟨"SortedBlocks$Codes", "countLengths", "([II)V"⟩, 5) := ⟨⟨by decide +kernel, by decide +kernel⟩, List.mem_of_getElem? (i := 93) (by decide +kernel), List.mem_of_getElem? (i := 474) (by decide +kernel), List.mem_of_getElem? (i := 475) (by decide +kernel)⟩
theorem lw_p9 : lw_okq (⟨"SortedBlocks$Codes", "placeLengths", "()V"⟩, 5) := ⟨⟨by decide +kernel, by decide +kernel⟩, List.mem_of_getElem? (i := 93) (by decide +kernel), List.mem_of_getElem? (i := 482) (by decide +kernel), List.mem_of_getElem? (i := 483) (by decide +kernel)⟩
theorem lw_p10 : lw_okq (⟨"SortedBlocks$BlockReader", "readSymbols", "(LSortedBlocks$Block;I)I"⟩, 6) := ⟨⟨by decide +kernel, by decide +kernel⟩, List.mem_of_getElem? (i := 73) (by decide +kernel), List.mem_of_getElem? (i := 489) (by decide +kernel), List.mem_of_getElem? (i := 490) (by decide +kernel)⟩
theorem lw_p11 : lw_okq (⟨"SortedBlocks$BlockReader", "readSymbol", "(LSortedBlocks$Codes;)I"⟩, 6) := ⟨⟨by decide +kernel, by decide +kernel⟩, List.mem_of_getElem? (i := 73) (by decide +kernel), List.mem_of_getElem? (i := 501) (by decide +kernel), List.mem_of_getElem? (i := 502) (by decide +kernel)⟩
theorem lw_p12 : lw_okq (⟨"SortedBlocks$BlockReader", "addBytes", "(LSortedBlocks$Block;II)Z"⟩, 6) := ⟨⟨by decide +kernel, by decide +kernel⟩, List.mem_of_getElem? (i := 73) (by decide +kernel), List.mem_of_getElem? (i := 517) (by decide +kernel), List.mem_of_getElem? (i := 518) (by decide +kernel)⟩
theorem lw_p13 : lw_okq (⟨"SortedBlocks$BlockReader", "unsort", "(LSortedBlocks$Block;)I"⟩, 6) := ⟨⟨by decide +kernel, by decide +kernel⟩, List.mem_of_getElem? (i := 73) (by decide +kernel), List.mem_of_getElem? (i := 525) (by decide +kernel), List.mem_of_getElem? (i := 526) (by decide +kernel)⟩
theorem lw_p14 : lw_okq (⟨"SortedBlocks$BlockReader", "findFollowers", "(LSortedBlocks$Block;)V"⟩, 6) := ⟨⟨by decide +kernel, by decide +kernel⟩, List.mem_of_getElem? (i := 73) (by decide +kernel), List.mem_of_getElem? (i := 529) (by decide +kernel), List.mem_of_getElem? (i := 530) (by decide +kernel)⟩
theorem lw_p15 : lw_okq (⟨"SortedBlocks", "tellNext", "()V"⟩, 12) := ⟨⟨by decide +kernel, by decide +kernel⟩, List.mem_of_getElem? (i := 25) (by decide +kernel), List.mem_of_getElem? (i := 550) (by decide +kernel), List.mem_of_getElem? (i := 551) (by decide +kernel)⟩
def lw_privs_1 : List (MethodName × Nat) := [(⟨"SortedBlocks$BlockReader", "readNumbers", "(LSortedBlocks$Block;)I"⟩, 6), (⟨"SortedBlocks$BlockReader", "readMap", "(LSortedBlocks$Block;)I"⟩, 6), (⟨"SortedBlocks$BlockReader", "readCounts", "(LSortedBlocks$Block;)I"⟩, 6), (⟨"SortedBlocks$BlockReader", "readPicks", "(LSortedBlocks$Block;)I"⟩, 6), (⟨"SortedBlocks$BlockReader", "readPick", "(I)I"⟩, 6), (⟨"SortedBlocks$BlockReader", "readTables", "(LSortedBlocks$Block;)I"⟩, 6), (⟨"SortedBlocks$BlockReader", "readLengths", "([II)I"⟩, 6), (⟨"SortedBlocks$BlockReader", "readLength", "(I)I"⟩, 6), (⟨"SortedBlocks$Codes", "countLengths", "([II)V"⟩, 5), (⟨"SortedBlocks$Codes", "placeLengths", "()V"⟩, 5), (⟨"SortedBlocks$BlockReader", "readSymbols", "(LSortedBlocks$Block;I)I"⟩, 6), (⟨"SortedBlocks$BlockReader", "readSymbol", "(LSortedBlocks$Codes;)I"⟩, 6), (⟨"SortedBlocks$BlockReader", "addBytes", "(LSortedBlocks$Block;II)Z"⟩, 6), (⟨"SortedBlocks$BlockReader", "unsort", "(LSortedBlocks$Block;)I"⟩, 6), (⟨"SortedBlocks$BlockReader", "findFollowers", "(LSortedBlocks$Block;)V"⟩, 6), (⟨"SortedBlocks", "tellNext", "()V"⟩, 12)]
theorem lw_r1 : ∀ q ∈ lw_privs_1, lw_okq q := List.forall_mem_cons.mpr ⟨lw_p0, List.forall_mem_cons.mpr ⟨lw_p1, List.forall_mem_cons.mpr ⟨lw_p2, List.forall_mem_cons.mpr ⟨lw_p3, List.forall_mem_cons.mpr ⟨lw_p4, List.forall_mem_cons.mpr ⟨lw_p5, List.forall_mem_cons.mpr ⟨lw_p6, List.forall_mem_cons.mpr ⟨lw_p7, List.forall_mem_cons.mpr ⟨lw_p8, List.forall_mem_cons.mpr ⟨lw_p9, List.forall_mem_cons.mpr ⟨lw_p10, List.forall_mem_cons.mpr ⟨lw_p11, List.forall_mem_cons.mpr ⟨lw_p12, List.forall_mem_cons.mpr ⟨lw_p13, List.forall_mem_cons.mpr ⟨lw_p14, List.forall_mem_cons.mpr ⟨lw_p15, fun _ h => absurd h List.not_mem_nil⟩⟩⟩⟩⟩⟩⟩⟩⟩⟩⟩⟩⟩⟩⟩⟩
theorem lw_p16 : lw_okq (⟨"SortedBlocks", "takeFresh", "()V"⟩, 12) := ⟨⟨by decide +kernel, by decide +kernel⟩, List.mem_of_getElem? (i := 25) (by decide +kernel), List.mem_of_getElem? (i := 554) (by decide +kernel), List.mem_of_getElem? (i := 555) (by decide +kernel)⟩
theorem lw_p17 : lw_okq (⟨"java/lang/Throwable", "fillInStackTrace", "(I)Ljava/lang/Throwable;"⟩, 6) := ⟨⟨by decide +kernel, by decide +kernel⟩, List.mem_of_getElem? (i := 648) (by decide +kernel), List.mem_of_getElem? (i := 646) (by decide +kernel), List.mem_of_getElem? (i := 647) (by decide +kernel)⟩
theorem lw_p18 : lw_okq (⟨"SortedBlocks$BitWriter", "putBit", "(I)V"⟩, 3) := ⟨⟨by decide +kernel, by decide +kernel⟩, List.mem_of_getElem? (i := 205) (by decide +kernel), List.mem_of_getElem? (i := 755) (by decide +kernel), List.mem_of_getElem? (i := 756) (by decide +kernel)⟩
theorem lw_p19 : lw_okq (⟨"SortedBlocks$BlockMaker", "sortRotations", "(LSortedBlocks$Block;)V"⟩, 4) := ⟨⟨by decide +kernel, by decide +kernel⟩, List.mem_of_getElem? (i := 134) (by decide +kernel), List.mem_of_getElem? (i := 773) (by decide +kernel), List.mem_of_getElem? (i := 774) (by decide +kernel)⟩
theorem lw_p20 : lw_okq (⟨"SortedBlocks$BlockMaker", "readOrder", "(LSortedBlocks$Block;)V"⟩, 4) := ⟨⟨by decide +kernel, by decide +kernel⟩, List.mem_of_getElem? (i := 134) (by decide +kernel), List.mem_of_getElem? (i := 781) (by decide +kernel), List.mem_of_getElem? (i := 782) (by decide +kernel)⟩
theorem lw_p21 : lw_okq (⟨"SortedBlocks$BlockMaker", "listKinds", "(LSortedBlocks$Block;)V"⟩, 4) := ⟨⟨by decide +kernel, by decide +kernel⟩, List.mem_of_getElem? (i := 134) (by decide +kernel), List.mem_of_getElem? (i := 785) (by decide +kernel), List.mem_of_getElem? (i := 786) (by decide +kernel)⟩
theorem lw_p22 : lw_okq (⟨"SortedBlocks$BlockMaker", "findSymbols", "(LSortedBlocks$Block;)V"⟩, 4) := ⟨⟨by decide +kernel, by decide +kernel⟩, List.mem_of_getElem? (i := 134) (by decide +kernel), List.mem_of_getElem? (i := 791) (by decide +kernel), List.mem_of_getElem? (i := 792) (by decide +kernel)⟩
theorem lw_p23 : lw_okq (⟨"SortedBlocks$Picker", "weigh", "(LSortedBlocks$Block;I)V"⟩, 2) := ⟨⟨by decide +kernel, by decide +kernel⟩, List.mem_of_getElem? (i := 142) (by decide +kernel), List.mem_of_getElem? (i := 810) (by decide +kernel), List.mem_of_getElem? (i := 811) (by decide +kernel)⟩
theorem lw_p24 : lw_okq (⟨"SortedBlocks$Trees", "sortSymbols", "()V"⟩, 7) := ⟨⟨by decide +kernel, by decide +kernel⟩, List.mem_of_getElem? (i := 148) (by decide +kernel), List.mem_of_getElem? (i := 826) (by decide +kernel), List.mem_of_getElem? (i := 827) (by decide +kernel)⟩
theorem lw_p25 : lw_okq (⟨"SortedBlocks$Trees", "joinTrees", "()V"⟩, 7) := ⟨⟨by decide +kernel, by decide +kernel⟩, List.mem_of_getElem? (i := 148) (by decide +kernel), List.mem_of_getElem? (i := 830) (by decide +kernel), List.mem_of_getElem? (i := 831) (by decide +kernel)⟩
theorem lw_p26 : lw_okq (⟨"SortedBlocks$Trees", "takeFirst", "(I)I"⟩, 7) := ⟨⟨by decide +kernel, by decide +kernel⟩, List.mem_of_getElem? (i := 148) (by decide +kernel), List.mem_of_getElem? (i := 834) (by decide +kernel), List.mem_of_getElem? (i := 835) (by decide +kernel)⟩
theorem lw_p27 : lw_okq (⟨"SortedBlocks$Trees", "measureDepths", "()V"⟩, 7) := ⟨⟨by decide +kernel, by decide +kernel⟩, List.mem_of_getElem? (i := 148) (by decide +kernel), List.mem_of_getElem? (i := 838) (by decide +kernel), List.mem_of_getElem? (i := 839) (by decide +kernel)⟩
theorem lw_p28 : lw_okq (⟨"SortedBlocks$Picker", "cheapest", "(LSortedBlocks$Block;I)I"⟩, 2) := ⟨⟨by decide +kernel, by decide +kernel⟩, List.mem_of_getElem? (i := 142) (by decide +kernel), List.mem_of_getElem? (i := 842) (by decide +kernel), List.mem_of_getElem? (i := 843) (by decide +kernel)⟩
theorem lw_p29 : lw_okq (⟨"SortedBlocks$Picker", "cost", "(LSortedBlocks$Block;II)I"⟩, 2) := ⟨⟨by decide +kernel, by decide +kernel⟩, List.mem_of_getElem? (i := 142) (by decide +kernel), List.mem_of_getElem? (i := 846) (by decide +kernel), List.mem_of_getElem? (i := 847) (by decide +kernel)⟩
theorem lw_p30 : lw_okq (⟨"SortedBlocks$BlockWriter", "writeMap", "(LSortedBlocks$Block;)V"⟩, 4) := ⟨⟨by decide +kernel, by decide +kernel⟩, List.mem_of_getElem? (i := 196) (by decide +kernel), List.mem_of_getElem? (i := 856) (by decide +kernel), List.mem_of_getElem? (i := 857) (by decide +kernel)⟩
theorem lw_p31 : lw_okq (⟨"SortedBlocks$BlockWriter", "writePicks", "(LSortedBlocks$Block;)V"⟩, 4) := ⟨⟨by decide +kernel, by decide +kernel⟩, List.mem_of_getElem? (i := 196) (by decide +kernel), List.mem_of_getElem? (i := 862) (by decide +kernel), List.mem_of_getElem? (i := 863) (by decide +kernel)⟩
def lw_privs_2 : List (MethodName × Nat) := [(⟨"SortedBlocks", "takeFresh", "()V"⟩, 12), (⟨"java/lang/Throwable", "fillInStackTrace", "(I)Ljava/lang/Throwable;"⟩, 6), (⟨"SortedBlocks$BitWriter", "putBit", "(I)V"⟩, 3), (⟨"SortedBlocks$BlockMaker", "sortRotations", "(LSortedBlocks$Block;)V"⟩, 4), (⟨"SortedBlocks$BlockMaker", "readOrder", "(LSortedBlocks$Block;)V"⟩, 4), (⟨"SortedBlocks$BlockMaker", "listKinds", "(LSortedBlocks$Block;)V"⟩, 4), (⟨"SortedBlocks$BlockMaker", "findSymbols", "(LSortedBlocks$Block;)V"⟩, 4), (⟨"SortedBlocks$Picker", "weigh", "(LSortedBlocks$Block;I)V"⟩, 2), (⟨"SortedBlocks$Trees", "sortSymbols", "()V"⟩, 7), (⟨"SortedBlocks$Trees", "joinTrees", "()V"⟩, 7), (⟨"SortedBlocks$Trees", "takeFirst", "(I)I"⟩, 7), (⟨"SortedBlocks$Trees", "measureDepths", "()V"⟩, 7), (⟨"SortedBlocks$Picker", "cheapest", "(LSortedBlocks$Block;I)I"⟩, 2), (⟨"SortedBlocks$Picker", "cost", "(LSortedBlocks$Block;II)I"⟩, 2), (⟨"SortedBlocks$BlockWriter", "writeMap", "(LSortedBlocks$Block;)V"⟩, 4), (⟨"SortedBlocks$BlockWriter", "writePicks", "(LSortedBlocks$Block;)V"⟩, 4)]
theorem lw_r2 : ∀ q ∈ lw_privs_2, lw_okq q := List.forall_mem_cons.mpr ⟨lw_p16, List.forall_mem_cons.mpr ⟨lw_p17, List.forall_mem_cons.mpr ⟨lw_p18, List.forall_mem_cons.mpr ⟨lw_p19, List.forall_mem_cons.mpr ⟨lw_p20, List.forall_mem_cons.mpr ⟨lw_p21, List.forall_mem_cons.mpr ⟨lw_p22, List.forall_mem_cons.mpr ⟨lw_p23, List.forall_mem_cons.mpr ⟨lw_p24, List.forall_mem_cons.mpr ⟨lw_p25, List.forall_mem_cons.mpr ⟨lw_p26, List.forall_mem_cons.mpr ⟨lw_p27, List.forall_mem_cons.mpr ⟨lw_p28, List.forall_mem_cons.mpr ⟨lw_p29, List.forall_mem_cons.mpr ⟨lw_p30, List.forall_mem_cons.mpr ⟨lw_p31, fun _ h => absurd h List.not_mem_nil⟩⟩⟩⟩⟩⟩⟩⟩⟩⟩⟩⟩⟩⟩⟩⟩
theorem lw_p32 : lw_okq (⟨"SortedBlocks$BlockWriter", "writeLengths", "([II)V"⟩, 4) := ⟨⟨by decide +kernel, by decide +kernel⟩, List.mem_of_getElem? (i := 196) (by decide +kernel), List.mem_of_getElem? (i := 869) (by decide +kernel), List.mem_of_getElem? (i := 870) (by decide +kernel)⟩
theorem lw_p33 : lw_okq (⟨"SortedBlocks$BlockWriter", "writeSymbols", "(LSortedBlocks$Block;)V"⟩, 4) := ⟨⟨by decide +kernel, by decide +kernel⟩, List.mem_of_getElem? (i := 196) (by decide +kernel), List.mem_of_getElem? (i := 877) (by decide +kernel), List.mem_of_getElem? (i := 878) (by decide +kernel)⟩
theorem lw_p34 : lw_okq (⟨"SortedBlocks", "readStream", "()I"⟩, 12) := ⟨⟨by decide +kernel, by decide +kernel⟩, List.mem_of_getElem? (i := 25) (by decide +kernel), List.mem_of_getElem? (i := 908) (by decide +kernel), List.mem_of_getElem? (i := 909) (by decide +kernel)⟩
theorem lw_p35 : lw_okq (⟨"SortedBlocks", "readHead", "()I"⟩, 12) := ⟨⟨by decide +kernel, by decide +kernel⟩, List.mem_of_getElem? (i := 25) (by decide +kernel), List.mem_of_getElem? (i := 912) (by decide +kernel), List.mem_of_getElem? (i := 913) (by decide +kernel)⟩
theorem lw_p36 : lw_okq (⟨"SortedBlocks", "readTotal", "(I)I"⟩, 12) := ⟨⟨by decide +kernel, by decide +kernel⟩, List.mem_of_getElem? (i := 25) (by decide +kernel), List.mem_of_getElem? (i := 919) (by decide +kernel), List.mem_of_getElem? (i := 920) (by decide +kernel)⟩
theorem lw_p37 : lw_okq (⟨"SortedBlocksModel", "write", "(II)V"⟩, 46) := ⟨⟨by decide +kernel, by decide +kernel⟩, List.mem_of_getElem? (i := 955) (by decide +kernel), List.mem_of_getElem? (i := 1126) (by decide +kernel), List.mem_of_getElem? (i := 1127) (by decide +kernel)⟩
theorem lw_p38 : lw_okq (⟨"SortedBlocksModel", "packBlock", "(II)I"⟩, 46) := ⟨⟨by decide +kernel, by decide +kernel⟩, List.mem_of_getElem? (i := 955) (by decide +kernel), List.mem_of_getElem? (i := 1130) (by decide +kernel), List.mem_of_getElem? (i := 1131) (by decide +kernel)⟩
theorem lw_p39 : lw_okq (⟨"SortedBlocksModel", "shorten", "(II)I"⟩, 46) := ⟨⟨by decide +kernel, by decide +kernel⟩, List.mem_of_getElem? (i := 955) (by decide +kernel), List.mem_of_getElem? (i := 1134) (by decide +kernel), List.mem_of_getElem? (i := 1135) (by decide +kernel)⟩
theorem lw_p40 : lw_okq (⟨"SortedBlocksModel", "checkOf", "()I"⟩, 46) := ⟨⟨by decide +kernel, by decide +kernel⟩, List.mem_of_getElem? (i := 955) (by decide +kernel), List.mem_of_getElem? (i := 1138) (by decide +kernel), List.mem_of_getElem? (i := 1139) (by decide +kernel)⟩
theorem lw_p41 : lw_okq (⟨"SortedBlocksModel", "sort", "()V"⟩, 46) := ⟨⟨by decide +kernel, by decide +kernel⟩, List.mem_of_getElem? (i := 955) (by decide +kernel), List.mem_of_getElem? (i := 1147) (by decide +kernel), List.mem_of_getElem? (i := 1148) (by decide +kernel)⟩
theorem lw_p42 : lw_okq (⟨"SortedBlocksModel", "before", "(II)Z"⟩, 46) := ⟨⟨by decide +kernel, by decide +kernel⟩, List.mem_of_getElem? (i := 955) (by decide +kernel), List.mem_of_getElem? (i := 1151) (by decide +kernel), List.mem_of_getElem? (i := 1152) (by decide +kernel)⟩
theorem lw_p43 : lw_okq (⟨"SortedBlocksModel", "makeSymbols", "()V"⟩, 46) := ⟨⟨by decide +kernel, by decide +kernel⟩, List.mem_of_getElem? (i := 955) (by decide +kernel), List.mem_of_getElem? (i := 1155) (by decide +kernel), List.mem_of_getElem? (i := 1156) (by decide +kernel)⟩
theorem lw_p44 : lw_okq (⟨"SortedBlocksModel", "listUsed", "()V"⟩, 46) := ⟨⟨by decide +kernel, by decide +kernel⟩, List.mem_of_getElem? (i := 955) (by decide +kernel), List.mem_of_getElem? (i := 1159) (by decide +kernel), List.mem_of_getElem? (i := 1160) (by decide +kernel)⟩
theorem lw_p45 : lw_okq (⟨"SortedBlocksModel", "toFront", "(I)I"⟩, 46) := ⟨⟨by decide +kernel, by decide +kernel⟩, List.mem_of_getElem? (i := 955) (by decide +kernel), List.mem_of_getElem? (i := 1163) (by decide +kernel), List.mem_of_getElem? (i := 1164) (by decide +kernel)⟩
theorem lw_p46 : lw_okq (⟨"SortedBlocksModel", "addRun", "(I)V"⟩, 46) := ⟨⟨by decide +kernel, by decide +kernel⟩, List.mem_of_getElem? (i := 955) (by decide +kernel), List.mem_of_getElem? (i := 1167) (by decide +kernel), List.mem_of_getElem? (i := 1168) (by decide +kernel)⟩
theorem lw_p47 : lw_okq (⟨"SortedBlocksModel", "addSymbol", "(I)V"⟩, 46) := ⟨⟨by decide +kernel, by decide +kernel⟩, List.mem_of_getElem? (i := 955) (by decide +kernel), List.mem_of_getElem? (i := 1171) (by decide +kernel), List.mem_of_getElem? (i := 1172) (by decide +kernel)⟩
def lw_privs_3 : List (MethodName × Nat) := [(⟨"SortedBlocks$BlockWriter", "writeLengths", "([II)V"⟩, 4), (⟨"SortedBlocks$BlockWriter", "writeSymbols", "(LSortedBlocks$Block;)V"⟩, 4), (⟨"SortedBlocks", "readStream", "()I"⟩, 12), (⟨"SortedBlocks", "readHead", "()I"⟩, 12), (⟨"SortedBlocks", "readTotal", "(I)I"⟩, 12), (⟨"SortedBlocksModel", "write", "(II)V"⟩, 46), (⟨"SortedBlocksModel", "packBlock", "(II)I"⟩, 46), (⟨"SortedBlocksModel", "shorten", "(II)I"⟩, 46), (⟨"SortedBlocksModel", "checkOf", "()I"⟩, 46), (⟨"SortedBlocksModel", "sort", "()V"⟩, 46), (⟨"SortedBlocksModel", "before", "(II)Z"⟩, 46), (⟨"SortedBlocksModel", "makeSymbols", "()V"⟩, 46), (⟨"SortedBlocksModel", "listUsed", "()V"⟩, 46), (⟨"SortedBlocksModel", "toFront", "(I)I"⟩, 46), (⟨"SortedBlocksModel", "addRun", "(I)V"⟩, 46), (⟨"SortedBlocksModel", "addSymbol", "(I)V"⟩, 46)]
theorem lw_r3 : ∀ q ∈ lw_privs_3, lw_okq q := List.forall_mem_cons.mpr ⟨lw_p32, List.forall_mem_cons.mpr ⟨lw_p33, List.forall_mem_cons.mpr ⟨lw_p34, List.forall_mem_cons.mpr ⟨lw_p35, List.forall_mem_cons.mpr ⟨lw_p36, List.forall_mem_cons.mpr ⟨lw_p37, List.forall_mem_cons.mpr ⟨lw_p38, List.forall_mem_cons.mpr ⟨lw_p39, List.forall_mem_cons.mpr ⟨lw_p40, List.forall_mem_cons.mpr ⟨lw_p41, List.forall_mem_cons.mpr ⟨lw_p42, List.forall_mem_cons.mpr ⟨lw_p43, List.forall_mem_cons.mpr ⟨lw_p44, List.forall_mem_cons.mpr ⟨lw_p45, List.forall_mem_cons.mpr ⟨lw_p46, List.forall_mem_cons.mpr ⟨lw_p47, fun _ h => absurd h List.not_mem_nil⟩⟩⟩⟩⟩⟩⟩⟩⟩⟩⟩⟩⟩⟩⟩⟩
theorem lw_p48 : lw_okq (⟨"SortedBlocksModel", "pick", "()V"⟩, 46) := ⟨⟨by decide +kernel, by decide +kernel⟩, List.mem_of_getElem? (i := 955) (by decide +kernel), List.mem_of_getElem? (i := 1175) (by decide +kernel), List.mem_of_getElem? (i := 1176) (by decide +kernel)⟩
theorem lw_p49 : lw_okq (⟨"SortedBlocksModel", "makeLengths", "(I)V"⟩, 46) := ⟨⟨by decide +kernel, by decide +kernel⟩, List.mem_of_getElem? (i := 955) (by decide +kernel), List.mem_of_getElem? (i := 1179) (by decide +kernel), List.mem_of_getElem? (i := 1180) (by decide +kernel)⟩
theorem lw_p50 : lw_okq (⟨"SortedBlocksModel", "firstTree", "(II)I"⟩, 46) := ⟨⟨by decide +kernel, by decide +kernel⟩, List.mem_of_getElem? (i := 955) (by decide +kernel), List.mem_of_getElem? (i := 1183) (by decide +kernel), List.mem_of_getElem? (i := 1184) (by decide +kernel)⟩
theorem lw_p51 : lw_okq (⟨"SortedBlocksModel", "costOf", "(II)I"⟩, 46) := ⟨⟨by decide +kernel, by decide +kernel⟩, List.mem_of_getElem? (i := 955) (by decide +kernel), List.mem_of_getElem? (i := 1187) (by decide +kernel), List.mem_of_getElem? (i := 1188) (by decide +kernel)⟩
theorem lw_p52 : lw_okq (⟨"SortedBlocksModel", "makeCodes", "(I)V"⟩, 46) := ⟨⟨by decide +kernel, by decide +kernel⟩, List.mem_of_getElem? (i := 955) (by decide +kernel), List.mem_of_getElem? (i := 1191) (by decide +kernel), List.mem_of_getElem? (i := 1192) (by decide +kernel)⟩
theorem lw_p53 : lw_okq (⟨"SortedBlocksModel", "writeBlock", "()V"⟩, 46) := ⟨⟨by decide +kernel, by decide +kernel⟩, List.mem_of_getElem? (i := 955) (by decide +kernel), List.mem_of_getElem? (i := 1195) (by decide +kernel), List.mem_of_getElem? (i := 1196) (by decide +kernel)⟩
theorem lw_p54 : lw_okq (⟨"SortedBlocksModel", "writeMaps", "()V"⟩, 46) := ⟨⟨by decide +kernel, by decide +kernel⟩, List.mem_of_getElem? (i := 955) (by decide +kernel), List.mem_of_getElem? (i := 1200) (by decide +kernel), List.mem_of_getElem? (i := 1201) (by decide +kernel)⟩
theorem lw_p55 : lw_okq (⟨"SortedBlocksModel", "mapOf", "(II)I"⟩, 46) := ⟨⟨by decide +kernel, by decide +kernel⟩, List.mem_of_getElem? (i := 955) (by decide +kernel), List.mem_of_getElem? (i := 1204) (by decide +kernel), List.mem_of_getElem? (i := 1205) (by decide +kernel)⟩
theorem lw_p56 : lw_okq (⟨"SortedBlocksModel", "writePicks", "()V"⟩, 46) := ⟨⟨by decide +kernel, by decide +kernel⟩, List.mem_of_getElem? (i := 955) (by decide +kernel), List.mem_of_getElem? (i := 1208) (by decide +kernel), List.mem_of_getElem? (i := 1209) (by decide +kernel)⟩
theorem lw_p57 : lw_okq (⟨"SortedBlocksModel", "beginOrder", "()V"⟩, 46) := ⟨⟨by decide +kernel, by decide +kernel⟩, List.mem_of_getElem? (i := 955) (by decide +kernel), List.mem_of_getElem? (i := 1212) (by decide +kernel), List.mem_of_getElem? (i := 1213) (by decide +kernel)⟩
theorem lw_p58 : lw_okq (⟨"SortedBlocksModel", "orderFront", "(I)I"⟩, 46) := ⟨⟨by decide +kernel, by decide +kernel⟩, List.mem_of_getElem? (i := 955) (by decide +kernel), List.mem_of_getElem? (i := 1216) (by decide +kernel), List.mem_of_getElem? (i := 1217) (by decide +kernel)⟩
theorem lw_p59 : lw_okq (⟨"SortedBlocksModel", "writeTable", "(I)V"⟩, 46) := ⟨⟨by decide +kernel, by decide +kernel⟩, List.mem_of_getElem? (i := 955) (by decide +kernel), List.mem_of_getElem? (i := 1220) (by decide +kernel), List.mem_of_getElem? (i := 1221) (by decide +kernel)⟩
theorem lw_p60 : lw_okq (⟨"SortedBlocksModel", "remember", "()V"⟩, 46) := ⟨⟨by decide +kernel, by decide +kernel⟩, List.mem_of_getElem? (i := 955) (by decide +kernel), List.mem_of_getElem? (i := 1227) (by decide +kernel), List.mem_of_getElem? (i := 1228) (by decide +kernel)⟩
theorem lw_p61 : lw_okq (⟨"SortedBlocksModel", "takeOver", "()V"⟩, 46) := ⟨⟨by decide +kernel, by decide +kernel⟩, List.mem_of_getElem? (i := 955) (by decide +kernel), List.mem_of_getElem? (i := 1232) (by decide +kernel), List.mem_of_getElem? (i := 1233) (by decide +kernel)⟩
theorem lw_p62 : lw_okq (⟨"SortedBlocksModel", "readStream", "()I"⟩, 46) := ⟨⟨by decide +kernel, by decide +kernel⟩, List.mem_of_getElem? (i := 955) (by decide +kernel), List.mem_of_getElem? (i := 1240) (by decide +kernel), List.mem_of_getElem? (i := 1241) (by decide +kernel)⟩
theorem lw_p63 : lw_okq (⟨"SortedBlocksModel", "take", "(II)I"⟩, 46) := ⟨⟨by decide +kernel, by decide +kernel⟩, List.mem_of_getElem? (i := 955) (by decide +kernel), List.mem_of_getElem? (i := 1244) (by decide +kernel), List.mem_of_getElem? (i := 1245) (by decide +kernel)⟩
def lw_privs_4 : List (MethodName × Nat) := [(⟨"SortedBlocksModel", "pick", "()V"⟩, 46), (⟨"SortedBlocksModel", "makeLengths", "(I)V"⟩, 46), (⟨"SortedBlocksModel", "firstTree", "(II)I"⟩, 46), (⟨"SortedBlocksModel", "costOf", "(II)I"⟩, 46), (⟨"SortedBlocksModel", "makeCodes", "(I)V"⟩, 46), (⟨"SortedBlocksModel", "writeBlock", "()V"⟩, 46), (⟨"SortedBlocksModel", "writeMaps", "()V"⟩, 46), (⟨"SortedBlocksModel", "mapOf", "(II)I"⟩, 46), (⟨"SortedBlocksModel", "writePicks", "()V"⟩, 46), (⟨"SortedBlocksModel", "beginOrder", "()V"⟩, 46), (⟨"SortedBlocksModel", "orderFront", "(I)I"⟩, 46), (⟨"SortedBlocksModel", "writeTable", "(I)V"⟩, 46), (⟨"SortedBlocksModel", "remember", "()V"⟩, 46), (⟨"SortedBlocksModel", "takeOver", "()V"⟩, 46), (⟨"SortedBlocksModel", "readStream", "()I"⟩, 46), (⟨"SortedBlocksModel", "take", "(II)I"⟩, 46)]
theorem lw_r4 : ∀ q ∈ lw_privs_4, lw_okq q := List.forall_mem_cons.mpr ⟨lw_p48, List.forall_mem_cons.mpr ⟨lw_p49, List.forall_mem_cons.mpr ⟨lw_p50, List.forall_mem_cons.mpr ⟨lw_p51, List.forall_mem_cons.mpr ⟨lw_p52, List.forall_mem_cons.mpr ⟨lw_p53, List.forall_mem_cons.mpr ⟨lw_p54, List.forall_mem_cons.mpr ⟨lw_p55, List.forall_mem_cons.mpr ⟨lw_p56, List.forall_mem_cons.mpr ⟨lw_p57, List.forall_mem_cons.mpr ⟨lw_p58, List.forall_mem_cons.mpr ⟨lw_p59, List.forall_mem_cons.mpr ⟨lw_p60, List.forall_mem_cons.mpr ⟨lw_p61, List.forall_mem_cons.mpr ⟨lw_p62, List.forall_mem_cons.mpr ⟨lw_p63, fun _ h => absurd h List.not_mem_nil⟩⟩⟩⟩⟩⟩⟩⟩⟩⟩⟩⟩⟩⟩⟩⟩
theorem lw_p64 : lw_okq (⟨"SortedBlocksModel", "fail", "(II)V"⟩, 46) := ⟨⟨by decide +kernel, by decide +kernel⟩, List.mem_of_getElem? (i := 955) (by decide +kernel), List.mem_of_getElem? (i := 1248) (by decide +kernel), List.mem_of_getElem? (i := 1249) (by decide +kernel)⟩
theorem lw_p65 : lw_okq (⟨"SortedBlocksModel", "failIf", "(ZII)V"⟩, 46) := ⟨⟨by decide +kernel, by decide +kernel⟩, List.mem_of_getElem? (i := 955) (by decide +kernel), List.mem_of_getElem? (i := 1252) (by decide +kernel), List.mem_of_getElem? (i := 1253) (by decide +kernel)⟩
theorem lw_p66 : lw_okq (⟨"SortedBlocksModel", "readBlock", "(I)V"⟩, 46) := ⟨⟨by decide +kernel, by decide +kernel⟩, List.mem_of_getElem? (i := 955) (by decide +kernel), List.mem_of_getElem? (i := 1256) (by decide +kernel), List.mem_of_getElem? (i := 1257) (by decide +kernel)⟩
theorem lw_p67 : lw_okq (⟨"SortedBlocksModel", "readMaps", "()V"⟩, 46) := ⟨⟨by decide +kernel, by decide +kernel⟩, List.mem_of_getElem? (i := 955) (by decide +kernel), List.mem_of_getElem? (i := 1260) (by decide +kernel), List.mem_of_getElem? (i := 1261) (by decide +kernel)⟩
theorem lw_p68 : lw_okq (⟨"SortedBlocksModel", "readPicks", "()V"⟩, 46) := ⟨⟨by decide +kernel, by decide +kernel⟩, List.mem_of_getElem? (i := 955) (by decide +kernel), List.mem_of_getElem? (i := 1264) (by decide +kernel), List.mem_of_getElem? (i := 1265) (by decide +kernel)⟩
theorem lw_p69 : lw_okq (⟨"SortedBlocksModel", "readTable", "(I)V"⟩, 46) := ⟨⟨by decide +kernel, by decide +kernel⟩, List.mem_of_getElem? (i := 955) (by decide +kernel), List.mem_of_getElem? (i := 1268) (by decide +kernel), List.mem_of_getElem? (i := 1269) (by decide +kernel)⟩
theorem lw_p70 : lw_okq (⟨"SortedBlocksModel", "readSymbols", "(I)I"⟩, 46) := ⟨⟨by decide +kernel, by decide +kernel⟩, List.mem_of_getElem? (i := 955) (by decide +kernel), List.mem_of_getElem? (i := 1272) (by decide +kernel), List.mem_of_getElem? (i := 1273) (by decide +kernel)⟩
theorem lw_p71 : lw_okq (⟨"SortedBlocksModel", "readSymbol", "(I)I"⟩, 46) := ⟨⟨by decide +kernel, by decide +kernel⟩, List.mem_of_getElem? (i := 955) (by decide +kernel), List.mem_of_getElem? (i := 1276) (by decide +kernel), List.mem_of_getElem? (i := 1277) (by decide +kernel)⟩
theorem lw_p72 : lw_okq (⟨"SortedBlocksModel", "decode", "(III)I"⟩, 46) := ⟨⟨by decide +kernel, by decide +kernel⟩, List.mem_of_getElem? (i := 955) (by decide +kernel), List.mem_of_getElem? (i := 1280) (by decide +kernel), List.mem_of_getElem? (i := 1281) (by decide +kernel)⟩
theorem lw_p73 : lw_okq (⟨"SortedBlocksModel", "addColumn", "(II)V"⟩, 46) := ⟨⟨by decide +kernel, by decide +kernel⟩, List.mem_of_getElem? (i := 955) (by decide +kernel), List.mem_of_getElem? (i := 1284) (by decide +kernel), List.mem_of_getElem? (i := 1285) (by decide +kernel)⟩
theorem lw_p74 : lw_okq (⟨"SortedBlocksModel", "unsort", "()V"⟩, 46) := ⟨⟨by decide +kernel, by decide +kernel⟩, List.mem_of_getElem? (i := 955) (by decide +kernel), List.mem_of_getElem? (i := 1288) (by decide +kernel), List.mem_of_getElem? (i := 1289) (by decide +kernel)⟩
theorem lw_p75 : lw_okq (⟨"SortedBlocksModel", "lengthen", "()Z"⟩, 46) := ⟨⟨by decide +kernel, by decide +kernel⟩, List.mem_of_getElem? (i := 955) (by decide +kernel), List.mem_of_getElem? (i := 1292) (by decide +kernel), List.mem_of_getElem? (i := 1293) (by decide +kernel)⟩
theorem lw_p76 : lw_okq (⟨"SortedBlocksModel", "tooMuch", "()Z"⟩, 46) := ⟨⟨by decide +kernel, by decide +kernel⟩, List.mem_of_getElem? (i := 955) (by decide +kernel), List.mem_of_getElem? (i := 1296) (by decide +kernel), List.mem_of_getElem? (i := 1297) (by decide +kernel)⟩
theorem lw_p77 : lw_okq (⟨"SortedBlocksModel", "addBytes", "()V"⟩, 46) := ⟨⟨by decide +kernel, by decide +kernel⟩, List.mem_of_getElem? (i := 955) (by decide +kernel), List.mem_of_getElem? (i := 1300) (by decide +kernel), List.mem_of_getElem? (i := 1301) (by decide +kernel)⟩
def lw_privs_5 : List (MethodName × Nat) := [(⟨"SortedBlocksModel", "fail", "(II)V"⟩, 46), (⟨"SortedBlocksModel", "failIf", "(ZII)V"⟩, 46), (⟨"SortedBlocksModel", "readBlock", "(I)V"⟩, 46), (⟨"SortedBlocksModel", "readMaps", "()V"⟩, 46), (⟨"SortedBlocksModel", "readPicks", "()V"⟩, 46), (⟨"SortedBlocksModel", "readTable", "(I)V"⟩, 46), (⟨"SortedBlocksModel", "readSymbols", "(I)I"⟩, 46), (⟨"SortedBlocksModel", "readSymbol", "(I)I"⟩, 46), (⟨"SortedBlocksModel", "decode", "(III)I"⟩, 46), (⟨"SortedBlocksModel", "addColumn", "(II)V"⟩, 46), (⟨"SortedBlocksModel", "unsort", "()V"⟩, 46), (⟨"SortedBlocksModel", "lengthen", "()Z"⟩, 46), (⟨"SortedBlocksModel", "tooMuch", "()Z"⟩, 46), (⟨"SortedBlocksModel", "addBytes", "()V"⟩, 46)]
theorem lw_r5 : ∀ q ∈ lw_privs_5, lw_okq q := List.forall_mem_cons.mpr ⟨lw_p64, List.forall_mem_cons.mpr ⟨lw_p65, List.forall_mem_cons.mpr ⟨lw_p66, List.forall_mem_cons.mpr ⟨lw_p67, List.forall_mem_cons.mpr ⟨lw_p68, List.forall_mem_cons.mpr ⟨lw_p69, List.forall_mem_cons.mpr ⟨lw_p70, List.forall_mem_cons.mpr ⟨lw_p71, List.forall_mem_cons.mpr ⟨lw_p72, List.forall_mem_cons.mpr ⟨lw_p73, List.forall_mem_cons.mpr ⟨lw_p74, List.forall_mem_cons.mpr ⟨lw_p75, List.forall_mem_cons.mpr ⟨lw_p76, List.forall_mem_cons.mpr ⟨lw_p77, fun _ h => absurd h List.not_mem_nil⟩⟩⟩⟩⟩⟩⟩⟩⟩⟩⟩⟩⟩⟩
def lw_privs : List (MethodName × Nat) := lw_privs_1 ++ (lw_privs_2 ++ (lw_privs_3 ++ (lw_privs_4 ++ (lw_privs_5))))
def lw_tbl : List Cond := k2_sels lw_privs ++ tables_1
theorem lw_privs_ok : ∀ q ∈ lw_privs, lw_okq q := by
  show ∀ q ∈ lw_privs_1 ++ (lw_privs_2 ++ (lw_privs_3 ++ (lw_privs_4 ++ (lw_privs_5)))), lw_okq q
  exact List.forall_mem_append.mpr ⟨lw_r1, List.forall_mem_append.mpr ⟨lw_r2, List.forall_mem_append.mpr ⟨lw_r3, List.forall_mem_append.mpr ⟨lw_r4, lw_r5⟩⟩⟩⟩
end
section
/-! Names, fields, words: written by wip/whole/gen out of the Statement and the listing. -/
abbrev zx_M : Type := MethodName × ByteArray × Nat × Option FieldType
def zx_T : List Cond := lw_tbl.filter goodWord
theorem zx_in {w : Cond} (i : Nat) (h : lw_tbl[i]? = some w) (g : goodWord w = true) : w ∈ zx_T := List.mem_filter.mpr ⟨List.mem_of_getElem? h, g⟩
theorem zx_Gd : ∀ w ∈ zx_T, (w.onTables && w.keeps) = true ∨ ∃ ty, w = .arrayClass ty := fun w h => good_of_word (List.mem_filter.mp h).2
theorem zx_Tin : ∀ w ∈ zx_T, w ∈ lw_tbl := fun w h => (List.mem_filter.mp h).1
def zx_CQ : String := "SortedBlocks$Codes"
def F_Main : u_T := fun k => match k with
  | 0 => ("SortedBlocks", "input", "LSortedBlocks$Row;", true)
  | 1 => ("SortedBlocks", "output", "LSortedBlocks$Row;", true)
  | 2 => ("SortedBlocks", "fresh", "LSortedBlocks$Row;", true)
  | 3 => ("SortedBlocks", "bits", "LSortedBlocks$BitReader;", true)
  | 4 => ("SortedBlocks", "reader", "LSortedBlocks$BlockReader;", true)
  | 5 => ("SortedBlocks", "maker", "LSortedBlocks$BlockMaker;", true)
  | 6 => ("SortedBlocks", "writer", "LSortedBlocks$BlockWriter;", true)
  | 7 => ("SortedBlocks", "told", "LSortedBlocks$Block;", false)
  | 8 => ("SortedBlocks", "next", "LSortedBlocks$Block;", false)
  | 9 => ("SortedBlocks", "blockCount", "I", false)
  | 10 => ("SortedBlocks", "readCount", "I", false)
  | _ => ("SortedBlocks", "faultAt", "I", false)
def t_Main : Nat → FieldType := fun k => match k with
  | 0 => .object "SortedBlocks$Row"
  | 1 => .object "SortedBlocks$Row"
  | 2 => .object "SortedBlocks$Row"
  | 3 => .object "SortedBlocks$BitReader"
  | 4 => .object "SortedBlocks$BlockReader"
  | 5 => .object "SortedBlocks$BlockMaker"
  | 6 => .object "SortedBlocks$BlockWriter"
  | 7 => .object "SortedBlocks$Block"
  | 8 => .object "SortedBlocks$Block"
  | 9 => .int
  | 10 => .int
  | _ => .int
def F_Mod : u_T := fun k => match k with
  | 0 => ("SortedBlocksModel", "thrown", "I", false)
  | 1 => ("SortedBlocksModel", "inSize", "I", false)
  | 2 => ("SortedBlocksModel", "in", "[I", true)
  | 3 => ("SortedBlocksModel", "outSize", "I", false)
  | 4 => ("SortedBlocksModel", "outRow", "[I", true)
  | 5 => ("SortedBlocksModel", "newSize", "I", false)
  | 6 => ("SortedBlocksModel", "fresh", "[I", true)
  | 7 => ("SortedBlocksModel", "pos", "I", false)
  | 8 => ("SortedBlocksModel", "fault", "I", false)
  | 9 => ("SortedBlocksModel", "faultAt", "I", false)
  | 10 => ("SortedBlocksModel", "toldAt", "I", false)
  | 11 => ("SortedBlocksModel", "room", "I", false)
  | 12 => ("SortedBlocksModel", "bytes", "I", false)
  | 13 => ("SortedBlocksModel", "plain", "[I", true)
  | 14 => ("SortedBlocksModel", "shorts", "I", false)
  | 15 => ("SortedBlocksModel", "shortRow", "[I", true)
  | 16 => ("SortedBlocksModel", "column", "[I", true)
  | 17 => ("SortedBlocksModel", "symbolCount", "I", false)
  | 18 => ("SortedBlocksModel", "symbols", "[I", true)
  | 19 => ("SortedBlocksModel", "checkNow", "I", false)
  | 20 => ("SortedBlocksModel", "checkAt", "I", false)
  | 21 => ("SortedBlocksModel", "originNow", "I", false)
  | 22 => ("SortedBlocksModel", "kinds", "I", false)
  | 23 => ("SortedBlocksModel", "used", "[Z", true)
  | 24 => ("SortedBlocksModel", "list", "[I", true)
  | 25 => ("SortedBlocksModel", "tables", "I", false)
  | 26 => ("SortedBlocksModel", "lengths", "[I", true)
  | 27 => ("SortedBlocksModel", "codes", "[I", true)
  | 28 => ("SortedBlocksModel", "groups", "I", false)
  | 29 => ("SortedBlocksModel", "picks", "[I", true)
  | 30 => ("SortedBlocksModel", "order", "[I", true)
  | 31 => ("SortedBlocksModel", "places", "[I", true)
  | 32 => ("SortedBlocksModel", "weights", "[I", true)
  | 33 => ("SortedBlocksModel", "into", "[I", true)
  | 34 => ("SortedBlocksModel", "blockCount", "I", false)
  | 35 => ("SortedBlocksModel", "lastOrigin", "I", false)
  | 36 => ("SortedBlocksModel", "lastShorts", "I", false)
  | 37 => ("SortedBlocksModel", "lastSymbols", "I", false)
  | 38 => ("SortedBlocksModel", "lastTables", "I", false)
  | 39 => ("SortedBlocksModel", "lastGroups", "I", false)
  | 40 => ("SortedBlocksModel", "lastKinds", "I", false)
  | 41 => ("SortedBlocksModel", "lastCheck", "I", false)
  | 42 => ("SortedBlocksModel", "lastColumn", "[I", true)
  | 43 => ("SortedBlocksModel", "lastSymbolRow", "[I", true)
  | 44 => ("SortedBlocksModel", "lastLengths", "[I", true)
  | _ => ("SortedBlocksModel", "lastPicks", "[I", true)
def t_Mod : Nat → FieldType := fun k => match k with
  | 0 => .int
  | 1 => .int
  | 2 => .array .int
  | 3 => .int
  | 4 => .array .int
  | 5 => .int
  | 6 => .array .int
  | 7 => .int
  | 8 => .int
  | 9 => .int
  | 10 => .int
  | 11 => .int
  | 12 => .int
  | 13 => .array .int
  | 14 => .int
  | 15 => .array .int
  | 16 => .array .int
  | 17 => .int
  | 18 => .array .int
  | 19 => .int
  | 20 => .int
  | 21 => .int
  | 22 => .int
  | 23 => .array .boolean
  | 24 => .array .int
  | 25 => .int
  | 26 => .array .int
  | 27 => .array .int
  | 28 => .int
  | 29 => .array .int
  | 30 => .array .int
  | 31 => .array .int
  | 32 => .array .int
  | 33 => .array .int
  | 34 => .int
  | 35 => .int
  | 36 => .int
  | 37 => .int
  | 38 => .int
  | 39 => .int
  | 40 => .int
  | 41 => .int
  | 42 => .array .int
  | 43 => .array .int
  | 44 => .array .int
  | _ => .array .int
def F_BitReader : u_T := fun k => match k with
  | 0 => ("SortedBlocks$BitReader", "row", "LSortedBlocks$Row;", true)
  | 1 => ("SortedBlocks$BitReader", "place", "I", false)
  | _ => ("SortedBlocks$BitReader", "began", "I", false)
def t_BitReader : Nat → FieldType := fun k => match k with
  | 0 => .object "SortedBlocks$Row"
  | 1 => .int
  | _ => .int
def F_BitWriter : u_T := fun k => match k with
  | 0 => ("SortedBlocks$BitWriter", "row", "LSortedBlocks$Row;", true)
  | 1 => ("SortedBlocks$BitWriter", "held", "I", false)
  | _ => ("SortedBlocks$BitWriter", "heldBits", "I", false)
def t_BitWriter : Nat → FieldType := fun k => match k with
  | 0 => .object "SortedBlocks$Row"
  | 1 => .int
  | _ => .int
def F_Block : u_T := fun k => match k with
  | 0 => ("SortedBlocks$Block", "check", "I", false)
  | 1 => ("SortedBlocks$Block", "origin", "I", false)
  | 2 => ("SortedBlocks$Block", "count", "I", false)
  | 3 => ("SortedBlocks$Block", "shortened", "[I", true)
  | 4 => ("SortedBlocks$Block", "column", "[I", true)
  | 5 => ("SortedBlocks$Block", "kinds", "I", false)
  | 6 => ("SortedBlocks$Block", "kindList", "[I", true)
  | 7 => ("SortedBlocks$Block", "symbolCount", "I", false)
  | 8 => ("SortedBlocks$Block", "symbols", "[I", true)
  | 9 => ("SortedBlocks$Block", "tables", "I", false)
  | 10 => ("SortedBlocks$Block", "lengths", "[[I", true)
  | 11 => ("SortedBlocks$Block", "groups", "I", false)
  | _ => ("SortedBlocks$Block", "picks", "[I", true)
def t_Block : Nat → FieldType := fun k => match k with
  | 0 => .int
  | 1 => .int
  | 2 => .int
  | 3 => .array .int
  | 4 => .array .int
  | 5 => .int
  | 6 => .array .int
  | 7 => .int
  | 8 => .array .int
  | 9 => .int
  | 10 => .array (.array .int)
  | 11 => .int
  | _ => .array .int
def F_BlockMaker : u_T := fun k => match k with
  | 0 => ("SortedBlocks$BlockMaker", "order", "[I", true)
  | 1 => ("SortedBlocks$BlockMaker", "present", "[I", true)
  | 2 => ("SortedBlocks$BlockMaker", "list", "LSortedBlocks$MoveList;", true)
  | _ => ("SortedBlocks$BlockMaker", "picker", "LSortedBlocks$Picker;", true)
def t_BlockMaker : Nat → FieldType := fun k => match k with
  | 0 => .array .int
  | 1 => .array .int
  | 2 => .object "SortedBlocks$MoveList"
  | _ => .object "SortedBlocks$Picker"
def F_BlockReader : u_T := fun k => match k with
  | 0 => ("SortedBlocks$BlockReader", "bits", "LSortedBlocks$BitReader;", true)
  | 1 => ("SortedBlocks$BlockReader", "list", "LSortedBlocks$MoveList;", true)
  | 2 => ("SortedBlocks$BlockReader", "codes", "[LSortedBlocks$Codes;", true)
  | 3 => ("SortedBlocks$BlockReader", "follower", "[I", true)
  | 4 => ("SortedBlocks$BlockReader", "places", "[I", true)
  | _ => ("SortedBlocks$BlockReader", "digit", "I", false)
def t_BlockReader : Nat → FieldType := fun k => match k with
  | 0 => .object "SortedBlocks$BitReader"
  | 1 => .object "SortedBlocks$MoveList"
  | 2 => .array (.object "SortedBlocks$Codes")
  | 3 => .array .int
  | 4 => .array .int
  | _ => .int
def F_BlockWriter : u_T := fun k => match k with
  | 0 => ("SortedBlocks$BlockWriter", "bits", "LSortedBlocks$BitWriter;", true)
  | 1 => ("SortedBlocks$BlockWriter", "maps", "[I", true)
  | 2 => ("SortedBlocks$BlockWriter", "list", "LSortedBlocks$MoveList;", true)
  | _ => ("SortedBlocks$BlockWriter", "codes", "[LSortedBlocks$Codes;", true)
def t_BlockWriter : Nat → FieldType := fun k => match k with
  | 0 => .object "SortedBlocks$BitWriter"
  | 1 => .array .int
  | 2 => .object "SortedBlocks$MoveList"
  | _ => .array (.object "SortedBlocks$Codes")
def F_Codes : u_T := fun k => match k with
  | 0 => ("SortedBlocks$Codes", "first", "[I", true)
  | 1 => ("SortedBlocks$Codes", "many", "[I", true)
  | 2 => ("SortedBlocks$Codes", "start", "[I", true)
  | 3 => ("SortedBlocks$Codes", "order", "[I", true)
  | _ => ("SortedBlocks$Codes", "codes", "[I", true)
def t_Codes : Nat → FieldType := fun k => match k with
  | 0 => .array .int
  | 1 => .array .int
  | 2 => .array .int
  | 3 => .array .int
  | _ => .array .int
def F_MoveList : u_T := fun k => match k with
  | 0 => ("SortedBlocks$MoveList", "items", "[I", true)
  | _ => ("SortedBlocks$MoveList", "count", "I", false)
def t_MoveList : Nat → FieldType := fun k => match k with
  | 0 => .array .int
  | _ => .int
def F_Picker : u_T := fun k => match k with
  | 0 => ("SortedBlocks$Picker", "trees", "LSortedBlocks$Trees;", true)
  | _ => ("SortedBlocks$Picker", "weights", "[I", true)
def t_Picker : Nat → FieldType := fun k => match k with
  | 0 => .object "SortedBlocks$Trees"
  | _ => .array .int
def F_Row : u_T := fun k => match k with
  | 0 => ("SortedBlocks$Row", "items", "[I", true)
  | _ => ("SortedBlocks$Row", "count", "I", false)
def t_Row : Nat → FieldType := fun k => match k with
  | 0 => .array .int
  | _ => .int
def F_Trees : u_T := fun k => match k with
  | 0 => ("SortedBlocks$Trees", "weight", "[I", true)
  | 1 => ("SortedBlocks$Trees", "parent", "[I", true)
  | 2 => ("SortedBlocks$Trees", "depth", "[I", true)
  | 3 => ("SortedBlocks$Trees", "symbolsByWeight", "[I", true)
  | 4 => ("SortedBlocks$Trees", "symbolCount", "I", false)
  | 5 => ("SortedBlocks$Trees", "nextSymbol", "I", false)
  | _ => ("SortedBlocks$Trees", "nextTree", "I", false)
def t_Trees : Nat → FieldType := fun k => match k with
  | 0 => .array .int
  | 1 => .array .int
  | 2 => .array .int
  | 3 => .array .int
  | 4 => .int
  | 5 => .int
  | _ => .int
abbrev zx_cl : List vw_C := [("SortedBlocks", F_Main, 12), ("SortedBlocksModel", F_Mod, 46), ("SortedBlocks$BitReader", F_BitReader, 3), ("SortedBlocks$BitWriter", F_BitWriter, 3), ("SortedBlocks$Block", F_Block, 13), ("SortedBlocks$BlockMaker", F_BlockMaker, 4), ("SortedBlocks$BlockReader", F_BlockReader, 6), ("SortedBlocks$BlockWriter", F_BlockWriter, 4), ("SortedBlocks$Codes", F_Codes, 5), ("SortedBlocks$MoveList", F_MoveList, 2), ("SortedBlocks$Picker", F_Picker, 2), ("SortedBlocks$Row", F_Row, 2), ("SortedBlocks$Trees", F_Trees, 7)]
def zx_ft : Nat → List Bool := fun k => match k with
  | 0 => [true, true, true, true, true, true, true, true, true, false, false, false]
  | 1 => [false, false, true, false, true, false, true, false, false, false, false, false, false, true, false, true, true, false, true, false, false, false, false, true, true, false, true, true, false, true, true, true, true, true, false, false, false, false, false, false, false, false, true, true, true, true]
  | 2 => [true, false, false]
  | 3 => [true, false, false]
  | 4 => [false, false, false, true, true, false, true, false, true, false, true, false, true]
  | 5 => [true, true, true, true]
  | 6 => [true, true, true, true, true, false]
  | 7 => [true, true, true, true]
  | 8 => [true, true, true, true, true]
  | 9 => [true, false]
  | 10 => [true, true]
  | 11 => [true, false]
  | 12 => [true, true, true, true, false, false, false]
  | _ => []
theorem cw_Main : ∀ w ∈ u_ws "SortedBlocks" F_Main 12, w ∈ zx_T := by decide +kernel
theorem ct_Main : ∀ k, k < 12 → parseFieldDescriptor (F_Main k).2.2.1 = some (t_Main k) := by decide +kernel
theorem cn_Main : ∀ a, a < 12 → ∀ b, b < 12 → a ≠ b → (F_Main a).2.1 ≠ (F_Main b).2.1 := by decide +kernel
theorem cw_Mod : ∀ w ∈ u_ws "SortedBlocksModel" F_Mod 46, w ∈ zx_T := by decide +kernel
theorem ct_Mod : ∀ k, k < 46 → parseFieldDescriptor (F_Mod k).2.2.1 = some (t_Mod k) := by decide +kernel
theorem cn_Mod : ∀ a, a < 46 → ∀ b, b < 46 → a ≠ b → (F_Mod a).2.1 ≠ (F_Mod b).2.1 := by decide +kernel
theorem cw_BitReader : ∀ w ∈ u_ws "SortedBlocks$BitReader" F_BitReader 3, w ∈ zx_T := by decide +kernel
theorem ct_BitReader : ∀ k, k < 3 → parseFieldDescriptor (F_BitReader k).2.2.1 = some (t_BitReader k) := by decide +kernel
theorem cn_BitReader : ∀ a, a < 3 → ∀ b, b < 3 → a ≠ b → (F_BitReader a).2.1 ≠ (F_BitReader b).2.1 := by decide +kernel
theorem cw_BitWriter : ∀ w ∈ u_ws "SortedBlocks$BitWriter" F_BitWriter 3, w ∈ zx_T := by decide +kernel
theorem ct_BitWriter : ∀ k, k < 3 → parseFieldDescriptor (F_BitWriter k).2.2.1 = some (t_BitWriter k) := by decide +kernel
theorem cn_BitWriter : ∀ a, a < 3 → ∀ b, b < 3 → a ≠ b → (F_BitWriter a).2.1 ≠ (F_BitWriter b).2.1 := by decide +kernel
theorem cw_Block : ∀ w ∈ u_ws "SortedBlocks$Block" F_Block 13, w ∈ zx_T := by decide +kernel
theorem ct_Block : ∀ k, k < 13 → parseFieldDescriptor (F_Block k).2.2.1 = some (t_Block k) := by decide +kernel
theorem cn_Block : ∀ a, a < 13 → ∀ b, b < 13 → a ≠ b → (F_Block a).2.1 ≠ (F_Block b).2.1 := by decide +kernel
theorem cw_BlockMaker : ∀ w ∈ u_ws "SortedBlocks$BlockMaker" F_BlockMaker 4, w ∈ zx_T := by decide +kernel
theorem ct_BlockMaker : ∀ k, k < 4 → parseFieldDescriptor (F_BlockMaker k).2.2.1 = some (t_BlockMaker k) := by decide +kernel
theorem cn_BlockMaker : ∀ a, a < 4 → ∀ b, b < 4 → a ≠ b → (F_BlockMaker a).2.1 ≠ (F_BlockMaker b).2.1 := by decide +kernel
theorem cw_BlockReader : ∀ w ∈ u_ws "SortedBlocks$BlockReader" F_BlockReader 6, w ∈ zx_T := by decide +kernel
theorem ct_BlockReader : ∀ k, k < 6 → parseFieldDescriptor (F_BlockReader k).2.2.1 = some (t_BlockReader k) := by decide +kernel
theorem cn_BlockReader : ∀ a, a < 6 → ∀ b, b < 6 → a ≠ b → (F_BlockReader a).2.1 ≠ (F_BlockReader b).2.1 := by decide +kernel
theorem cw_BlockWriter : ∀ w ∈ u_ws "SortedBlocks$BlockWriter" F_BlockWriter 4, w ∈ zx_T := by decide +kernel
theorem ct_BlockWriter : ∀ k, k < 4 → parseFieldDescriptor (F_BlockWriter k).2.2.1 = some (t_BlockWriter k) := by decide +kernel
theorem cn_BlockWriter : ∀ a, a < 4 → ∀ b, b < 4 → a ≠ b → (F_BlockWriter a).2.1 ≠ (F_BlockWriter b).2.1 := by decide +kernel
theorem cw_Codes : ∀ w ∈ u_ws "SortedBlocks$Codes" F_Codes 5, w ∈ zx_T := by decide +kernel
theorem ct_Codes : ∀ k, k < 5 → parseFieldDescriptor (F_Codes k).2.2.1 = some (t_Codes k) := by decide +kernel
theorem cn_Codes : ∀ a, a < 5 → ∀ b, b < 5 → a ≠ b → (F_Codes a).2.1 ≠ (F_Codes b).2.1 := by decide +kernel
theorem cw_MoveList : ∀ w ∈ u_ws "SortedBlocks$MoveList" F_MoveList 2, w ∈ zx_T := by decide +kernel
theorem ct_MoveList : ∀ k, k < 2 → parseFieldDescriptor (F_MoveList k).2.2.1 = some (t_MoveList k) := by decide +kernel
theorem cn_MoveList : ∀ a, a < 2 → ∀ b, b < 2 → a ≠ b → (F_MoveList a).2.1 ≠ (F_MoveList b).2.1 := by decide +kernel
theorem cw_Picker : ∀ w ∈ u_ws "SortedBlocks$Picker" F_Picker 2, w ∈ zx_T := by decide +kernel
theorem ct_Picker : ∀ k, k < 2 → parseFieldDescriptor (F_Picker k).2.2.1 = some (t_Picker k) := by decide +kernel
theorem cn_Picker : ∀ a, a < 2 → ∀ b, b < 2 → a ≠ b → (F_Picker a).2.1 ≠ (F_Picker b).2.1 := by decide +kernel
theorem cw_Row : ∀ w ∈ u_ws "SortedBlocks$Row" F_Row 2, w ∈ zx_T := by decide +kernel
theorem ct_Row : ∀ k, k < 2 → parseFieldDescriptor (F_Row k).2.2.1 = some (t_Row k) := by decide +kernel
theorem cn_Row : ∀ a, a < 2 → ∀ b, b < 2 → a ≠ b → (F_Row a).2.1 ≠ (F_Row b).2.1 := by decide +kernel
theorem cw_Trees : ∀ w ∈ u_ws "SortedBlocks$Trees" F_Trees 7, w ∈ zx_T := by decide +kernel
theorem ct_Trees : ∀ k, k < 7 → parseFieldDescriptor (F_Trees k).2.2.1 = some (t_Trees k) := by decide +kernel
theorem cn_Trees : ∀ a, a < 7 → ∀ b, b < 7 → a ≠ b → (F_Trees a).2.1 ≠ (F_Trees b).2.1 := by decide +kernel
abbrev M_Main_init : zx_M := (⟨"SortedBlocks", "<init>", "()V"⟩, prog_1_method_1_code, 1, none)
abbrev M_Main_feed : zx_M := (⟨"SortedBlocks", "feed", "(JI)I"⟩, prog_1_method_2_code, 5, some .int)
abbrev M_Main_keep : zx_M := (⟨"SortedBlocks", "keep", "(I)V"⟩, prog_1_method_3_code, 2, none)
abbrev M_Main_damage : zx_M := (⟨"SortedBlocks", "damage", "(I)V"⟩, prog_1_method_4_code, 2, none)
abbrev M_Main_append : zx_M := (⟨"SortedBlocks", "append", "()I"⟩, prog_1_method_5_code, 1, some .int)
abbrev M_Main_pack : zx_M := (⟨"SortedBlocks", "pack", "(I)I"⟩, prog_1_method_6_code, 5, some .int)
abbrev M_Main_unpack : zx_M := (⟨"SortedBlocks", "unpack", "()I"⟩, prog_1_method_7_code, 3, some .int)
abbrev M_Main_at : zx_M := (⟨"SortedBlocks", "at", "()I"⟩, prog_1_method_8_code, 1, some .int)
abbrev M_Main_rescue : zx_M := (⟨"SortedBlocks", "rescue", "()I"⟩, prog_1_method_9_code, 3, some .int)
abbrev M_Main_given : zx_M := (⟨"SortedBlocks", "given", "()I"⟩, prog_1_method_10_code, 1, some .int)
abbrev M_Main_size : zx_M := (⟨"SortedBlocks", "size", "()I"⟩, prog_1_method_11_code, 1, some .int)
abbrev M_Main_out : zx_M := (⟨"SortedBlocks", "out", "(I)I"⟩, prog_1_method_12_code, 2, some .int)
abbrev M_Main_blocks : zx_M := (⟨"SortedBlocks", "blocks", "()I"⟩, prog_1_method_13_code, 1, some .int)
abbrev M_Main_block : zx_M := (⟨"SortedBlocks", "block", "(I)I"⟩, prog_1_method_14_code, 2, some .int)
abbrev M_Main_last : zx_M := (⟨"SortedBlocks", "last", "(I)I"⟩, prog_1_method_15_code, 2, some .int)
abbrev M_Main_symbol : zx_M := (⟨"SortedBlocks", "symbol", "(I)I"⟩, prog_1_method_16_code, 2, some .int)
abbrev M_Main_length : zx_M := (⟨"SortedBlocks", "length", "(II)I"⟩, prog_1_method_17_code, 4, some .int)
abbrev M_Main_table : zx_M := (⟨"SortedBlocks", "table", "(I)I"⟩, prog_1_method_18_code, 2, some .int)
abbrev M_Main_readStream : zx_M := (⟨"SortedBlocks", "readStream", "()I"⟩, prog_1_method_19_code, 6, some .int)
abbrev M_Main_readTotal : zx_M := (⟨"SortedBlocks", "readTotal", "(I)I"⟩, prog_1_method_20_code, 3, some .int)
abbrev M_Main_readHead : zx_M := (⟨"SortedBlocks", "readHead", "()I"⟩, prog_1_method_21_code, 3, some .int)
abbrev M_Main_tellNext : zx_M := (⟨"SortedBlocks", "tellNext", "()V"⟩, prog_1_method_22_code, 2, none)
abbrev M_Main_takeFresh : zx_M := (⟨"SortedBlocks", "takeFresh", "()V"⟩, prog_1_method_23_code, 1, none)
abbrev M_Main_nextTotal : zx_M := (⟨"SortedBlocks", "nextTotal", "(II)I"⟩, prog_1_method_24_code, 2, some .int)
abbrev M_Main_mapBit : zx_M := (⟨"SortedBlocks", "mapBit", "(I)I"⟩, prog_1_method_25_code, 1, some .int)
abbrev M_Main_checkOf : zx_M := (⟨"SortedBlocks", "checkOf", "(LSortedBlocks$Row;II)I"⟩, prog_1_method_26_code, 6, some .int)
abbrev M_Mod_init : zx_M := (⟨"SortedBlocksModel", "<init>", "()V"⟩, prog_14_method_1_code, 1, none)
abbrev M_Mod_thrown : zx_M := (⟨"SortedBlocksModel", "thrown", "()I"⟩, prog_14_method_2_code, 1, some .int)
abbrev M_Mod_feed : zx_M := (⟨"SortedBlocksModel", "feed", "(JI)I"⟩, prog_14_method_3_code, 5, some .int)
abbrev M_Mod_keep : zx_M := (⟨"SortedBlocksModel", "keep", "(I)V"⟩, prog_14_method_4_code, 2, none)
abbrev M_Mod_damage : zx_M := (⟨"SortedBlocksModel", "damage", "(I)V"⟩, prog_14_method_5_code, 2, none)
abbrev M_Mod_append : zx_M := (⟨"SortedBlocksModel", "append", "()I"⟩, prog_14_method_6_code, 2, some .int)
abbrev M_Mod_takeOver : zx_M := (⟨"SortedBlocksModel", "takeOver", "()V"⟩, prog_14_method_7_code, 2, none)
abbrev M_Mod_step : zx_M := (⟨"SortedBlocksModel", "step", "(II)I"⟩, prog_14_method_8_code, 4, some .int)
abbrev M_Mod_checkOf : zx_M := (⟨"SortedBlocksModel", "checkOf", "()I"⟩, prog_14_method_9_code, 3, some .int)
abbrev M_Mod_addTotal : zx_M := (⟨"SortedBlocksModel", "addTotal", "(II)I"⟩, prog_14_method_10_code, 2, some .int)
abbrev M_Mod_shorten : zx_M := (⟨"SortedBlocksModel", "shorten", "(II)I"⟩, prog_14_method_11_code, 8, some .int)
abbrev M_Mod_lengthen : zx_M := (⟨"SortedBlocksModel", "lengthen", "()Z"⟩, prog_14_method_12_code, 4, some .boolean)
abbrev M_Mod_before : zx_M := (⟨"SortedBlocksModel", "before", "(II)Z"⟩, prog_14_method_13_code, 6, some .boolean)
abbrev M_Mod_sort : zx_M := (⟨"SortedBlocksModel", "sort", "()V"⟩, prog_14_method_14_code, 4, none)
abbrev M_Mod_unsort : zx_M := (⟨"SortedBlocksModel", "unsort", "()V"⟩, prog_14_method_15_code, 4, none)
abbrev M_Mod_listUsed : zx_M := (⟨"SortedBlocksModel", "listUsed", "()V"⟩, prog_14_method_16_code, 2, none)
abbrev M_Mod_toFront : zx_M := (⟨"SortedBlocksModel", "toFront", "(I)I"⟩, prog_14_method_17_code, 4, some .int)
abbrev M_Mod_addSymbol : zx_M := (⟨"SortedBlocksModel", "addSymbol", "(I)V"⟩, prog_14_method_18_code, 2, none)
abbrev M_Mod_addRun : zx_M := (⟨"SortedBlocksModel", "addRun", "(I)V"⟩, prog_14_method_19_code, 4, none)
abbrev M_Mod_makeSymbols : zx_M := (⟨"SortedBlocksModel", "makeSymbols", "()V"⟩, prog_14_method_20_code, 5, none)
abbrev M_Mod_firstTree : zx_M := (⟨"SortedBlocksModel", "firstTree", "(II)I"⟩, prog_14_method_21_code, 5, some .int)
abbrev M_Mod_makeLengths : zx_M := (⟨"SortedBlocksModel", "makeLengths", "(I)V"⟩, prog_14_method_22_code, 7, none)
abbrev M_Mod_makeCodes : zx_M := (⟨"SortedBlocksModel", "makeCodes", "(I)V"⟩, prog_14_method_23_code, 6, none)
abbrev M_Mod_costOf : zx_M := (⟨"SortedBlocksModel", "costOf", "(II)I"⟩, prog_14_method_24_code, 5, some .int)
abbrev M_Mod_pick : zx_M := (⟨"SortedBlocksModel", "pick", "()V"⟩, prog_14_method_25_code, 4, none)
abbrev M_Mod_write : zx_M := (⟨"SortedBlocksModel", "write", "(II)V"⟩, prog_14_method_26_code, 4, none)
abbrev M_Mod_mapOf : zx_M := (⟨"SortedBlocksModel", "mapOf", "(II)I"⟩, prog_14_method_27_code, 7, some .int)
abbrev M_Mod_writeMaps : zx_M := (⟨"SortedBlocksModel", "writeMaps", "()V"⟩, prog_14_method_28_code, 3, none)
abbrev M_Mod_beginOrder : zx_M := (⟨"SortedBlocksModel", "beginOrder", "()V"⟩, prog_14_method_29_code, 2, none)
abbrev M_Mod_orderFront : zx_M := (⟨"SortedBlocksModel", "orderFront", "(I)I"⟩, prog_14_method_30_code, 4, some .int)
abbrev M_Mod_writePicks : zx_M := (⟨"SortedBlocksModel", "writePicks", "()V"⟩, prog_14_method_31_code, 5, none)
abbrev M_Mod_writeTable : zx_M := (⟨"SortedBlocksModel", "writeTable", "(I)V"⟩, prog_14_method_32_code, 4, none)
abbrev M_Mod_writeBlock : zx_M := (⟨"SortedBlocksModel", "writeBlock", "()V"⟩, prog_14_method_33_code, 3, none)
abbrev M_Mod_packBlock : zx_M := (⟨"SortedBlocksModel", "packBlock", "(II)I"⟩, prog_14_method_34_code, 5, some .int)
abbrev M_Mod_remember : zx_M := (⟨"SortedBlocksModel", "remember", "()V"⟩, prog_14_method_35_code, 2, none)
abbrev M_Mod_pack : zx_M := (⟨"SortedBlocksModel", "pack", "(I)I"⟩, prog_14_method_36_code, 4, some .int)
abbrev M_Mod_fail : zx_M := (⟨"SortedBlocksModel", "fail", "(II)V"⟩, prog_14_method_37_code, 3, none)
abbrev M_Mod_take : zx_M := (⟨"SortedBlocksModel", "take", "(II)I"⟩, prog_14_method_38_code, 5, some .int)
abbrev M_Mod_failIf : zx_M := (⟨"SortedBlocksModel", "failIf", "(ZII)V"⟩, prog_14_method_39_code, 4, none)
abbrev M_Mod_readMaps : zx_M := (⟨"SortedBlocksModel", "readMaps", "()V"⟩, prog_14_method_40_code, 6, none)
abbrev M_Mod_readPicks : zx_M := (⟨"SortedBlocksModel", "readPicks", "()V"⟩, prog_14_method_41_code, 4, none)
abbrev M_Mod_readTable : zx_M := (⟨"SortedBlocksModel", "readTable", "(I)V"⟩, prog_14_method_42_code, 6, none)
abbrev M_Mod_decode : zx_M := (⟨"SortedBlocksModel", "decode", "(III)I"⟩, prog_14_method_43_code, 5, some .int)
abbrev M_Mod_readSymbol : zx_M := (⟨"SortedBlocksModel", "readSymbol", "(I)I"⟩, prog_14_method_44_code, 6, some .int)
abbrev M_Mod_addColumn : zx_M := (⟨"SortedBlocksModel", "addColumn", "(II)V"⟩, prog_14_method_45_code, 4, none)
abbrev M_Mod_readSymbols : zx_M := (⟨"SortedBlocksModel", "readSymbols", "(I)I"⟩, prog_14_method_46_code, 7, some .int)
abbrev M_Mod_readBlock : zx_M := (⟨"SortedBlocksModel", "readBlock", "(I)V"⟩, prog_14_method_47_code, 5, none)
abbrev M_Mod_tooMuch : zx_M := (⟨"SortedBlocksModel", "tooMuch", "()Z"⟩, prog_14_method_48_code, 1, some .boolean)
abbrev M_Mod_addBytes : zx_M := (⟨"SortedBlocksModel", "addBytes", "()V"⟩, prog_14_method_49_code, 2, none)
abbrev M_Mod_readStream : zx_M := (⟨"SortedBlocksModel", "readStream", "()I"⟩, prog_14_method_50_code, 6, some .int)
abbrev M_Mod_unpack : zx_M := (⟨"SortedBlocksModel", "unpack", "()I"⟩, prog_14_method_51_code, 3, some .int)
abbrev M_Mod_at : zx_M := (⟨"SortedBlocksModel", "at", "()I"⟩, prog_14_method_52_code, 1, some .int)
abbrev M_Mod_rescue : zx_M := (⟨"SortedBlocksModel", "rescue", "()I"⟩, prog_14_method_53_code, 3, some .int)
abbrev M_Mod_given : zx_M := (⟨"SortedBlocksModel", "given", "()I"⟩, prog_14_method_54_code, 1, some .int)
abbrev M_Mod_size : zx_M := (⟨"SortedBlocksModel", "size", "()I"⟩, prog_14_method_55_code, 1, some .int)
abbrev M_Mod_out : zx_M := (⟨"SortedBlocksModel", "out", "(I)I"⟩, prog_14_method_56_code, 2, some .int)
abbrev M_Mod_blocks : zx_M := (⟨"SortedBlocksModel", "blocks", "()I"⟩, prog_14_method_57_code, 1, some .int)
abbrev M_Mod_block : zx_M := (⟨"SortedBlocksModel", "block", "(I)I"⟩, prog_14_method_58_code, 2, some .int)
abbrev M_Mod_last : zx_M := (⟨"SortedBlocksModel", "last", "(I)I"⟩, prog_14_method_59_code, 2, some .int)
abbrev M_Mod_symbol : zx_M := (⟨"SortedBlocksModel", "symbol", "(I)I"⟩, prog_14_method_60_code, 2, some .int)
abbrev M_Mod_length : zx_M := (⟨"SortedBlocksModel", "length", "(II)I"⟩, prog_14_method_61_code, 3, some .int)
abbrev M_Mod_table : zx_M := (⟨"SortedBlocksModel", "table", "(I)I"⟩, prog_14_method_62_code, 2, some .int)
abbrev M_BitReader_init : zx_M := (⟨"SortedBlocks$BitReader", "<init>", "(LSortedBlocks$Row;)V"⟩, prog_2_method_1_code, 2, none)
abbrev M_BitReader_isAtEnd : zx_M := (⟨"SortedBlocks$BitReader", "isAtEnd", "()Z"⟩, prog_2_method_2_code, 1, some .boolean)
abbrev M_BitReader_goTo : zx_M := (⟨"SortedBlocks$BitReader", "goTo", "(I)V"⟩, prog_2_method_3_code, 2, none)
abbrev M_BitReader_skipToByte : zx_M := (⟨"SortedBlocks$BitReader", "skipToByte", "()V"⟩, prog_2_method_4_code, 1, none)
abbrev M_BitReader_beginNumber : zx_M := (⟨"SortedBlocks$BitReader", "beginNumber", "()V"⟩, prog_2_method_5_code, 1, none)
abbrev M_BitReader_takeBit : zx_M := (⟨"SortedBlocks$BitReader", "takeBit", "()I"⟩, prog_2_method_6_code, 3, some .int)
abbrev M_BitReader_takeNumber : zx_M := (⟨"SortedBlocks$BitReader", "takeNumber", "(I)I"⟩, prog_2_method_7_code, 5, some .int)
abbrev M_BitReader_findMark : zx_M := (⟨"SortedBlocks$BitReader", "findMark", "(I)Z"⟩, prog_2_method_8_code, 5, some .boolean)
abbrev M_BitWriter_init : zx_M := (⟨"SortedBlocks$BitWriter", "<init>", "(LSortedBlocks$Row;)V"⟩, prog_3_method_1_code, 2, none)
abbrev M_BitWriter_put : zx_M := (⟨"SortedBlocks$BitWriter", "put", "(II)V"⟩, prog_3_method_2_code, 4, none)
abbrev M_BitWriter_fillByte : zx_M := (⟨"SortedBlocks$BitWriter", "fillByte", "()V"⟩, prog_3_method_3_code, 1, none)
abbrev M_BitWriter_putBit : zx_M := (⟨"SortedBlocks$BitWriter", "putBit", "(I)V"⟩, prog_3_method_4_code, 2, none)
abbrev M_Block_init : zx_M := (⟨"SortedBlocks$Block", "<init>", "()V"⟩, prog_4_method_1_code, 1, none)
abbrev M_Block_symbolKinds : zx_M := (⟨"SortedBlocks$Block", "symbolKinds", "()I"⟩, prog_4_method_2_code, 1, some .int)
abbrev M_Block_endSymbol : zx_M := (⟨"SortedBlocks$Block", "endSymbol", "()I"⟩, prog_4_method_3_code, 1, some .int)
abbrev M_Block_addKind : zx_M := (⟨"SortedBlocks$Block", "addKind", "(I)V"⟩, prog_4_method_4_code, 2, none)
abbrev M_Block_addShortened : zx_M := (⟨"SortedBlocks$Block", "addShortened", "(I)V"⟩, prog_4_method_5_code, 2, none)
abbrev M_Block_addToColumn : zx_M := (⟨"SortedBlocks$Block", "addToColumn", "(I)V"⟩, prog_4_method_6_code, 2, none)
abbrev M_Block_addSymbol : zx_M := (⟨"SortedBlocks$Block", "addSymbol", "(I)V"⟩, prog_4_method_7_code, 2, none)
abbrev M_Block_pickOfSymbol : zx_M := (⟨"SortedBlocks$Block", "pickOfSymbol", "(I)I"⟩, prog_4_method_8_code, 3, some .int)
abbrev M_BlockMaker_init : zx_M := (⟨"SortedBlocks$BlockMaker", "<init>", "()V"⟩, prog_5_method_1_code, 1, none)
abbrev M_BlockMaker_makeBlock : zx_M := (⟨"SortedBlocks$BlockMaker", "makeBlock", "(LSortedBlocks$Block;LSortedBlocks$Row;II)I"⟩, prog_5_method_2_code, 6, some .int)
abbrev M_BlockMaker_shorten : zx_M := (⟨"SortedBlocks$BlockMaker", "shorten", "(LSortedBlocks$Block;LSortedBlocks$Row;II)I"⟩, prog_5_method_3_code, 8, some .int)
abbrev M_BlockMaker_sortRotations : zx_M := (⟨"SortedBlocks$BlockMaker", "sortRotations", "(LSortedBlocks$Block;)V"⟩, prog_5_method_4_code, 6, none)
abbrev M_BlockMaker_isBefore : zx_M := (⟨"SortedBlocks$BlockMaker", "isBefore", "(LSortedBlocks$Block;II)Z"⟩, prog_5_method_5_code, 6, some .boolean)
abbrev M_BlockMaker_readOrder : zx_M := (⟨"SortedBlocks$BlockMaker", "readOrder", "(LSortedBlocks$Block;)V"⟩, prog_5_method_6_code, 4, none)
abbrev M_BlockMaker_listKinds : zx_M := (⟨"SortedBlocks$BlockMaker", "listKinds", "(LSortedBlocks$Block;)V"⟩, prog_5_method_7_code, 3, none)
abbrev M_BlockMaker_findSymbols : zx_M := (⟨"SortedBlocks$BlockMaker", "findSymbols", "(LSortedBlocks$Block;)V"⟩, prog_5_method_8_code, 5, none)
abbrev M_BlockMaker_addRun : zx_M := (⟨"SortedBlocks$BlockMaker", "addRun", "(LSortedBlocks$Block;I)V"⟩, prog_5_method_9_code, 3, none)
abbrev M_BlockReader_init : zx_M := (⟨"SortedBlocks$BlockReader", "<init>", "(LSortedBlocks$BitReader;)V"⟩, prog_6_method_1_code, 3, none)
abbrev M_BlockReader_readBlock : zx_M := (⟨"SortedBlocks$BlockReader", "readBlock", "(LSortedBlocks$Block;ILSortedBlocks$Row;)I"⟩, prog_6_method_2_code, 7, some .int)
abbrev M_BlockReader_readNumbers : zx_M := (⟨"SortedBlocks$BlockReader", "readNumbers", "(LSortedBlocks$Block;)I"⟩, prog_6_method_3_code, 2, some .int)
abbrev M_BlockReader_readMap : zx_M := (⟨"SortedBlocks$BlockReader", "readMap", "(LSortedBlocks$Block;)I"⟩, prog_6_method_4_code, 5, some .int)
abbrev M_BlockReader_addKinds : zx_M := (⟨"SortedBlocks$BlockReader", "addKinds", "(LSortedBlocks$Block;II)V"⟩, prog_6_method_5_code, 4, none)
abbrev M_BlockReader_readCounts : zx_M := (⟨"SortedBlocks$BlockReader", "readCounts", "(LSortedBlocks$Block;)I"⟩, prog_6_method_6_code, 2, some .int)
abbrev M_BlockReader_readPicks : zx_M := (⟨"SortedBlocks$BlockReader", "readPicks", "(LSortedBlocks$Block;)I"⟩, prog_6_method_7_code, 4, some .int)
abbrev M_BlockReader_readPick : zx_M := (⟨"SortedBlocks$BlockReader", "readPick", "(I)I"⟩, prog_6_method_8_code, 4, some .int)
abbrev M_BlockReader_readTables : zx_M := (⟨"SortedBlocks$BlockReader", "readTables", "(LSortedBlocks$Block;)I"⟩, prog_6_method_9_code, 4, some .int)
abbrev M_BlockReader_readLengths : zx_M := (⟨"SortedBlocks$BlockReader", "readLengths", "([II)I"⟩, prog_6_method_10_code, 5, some .int)
abbrev M_BlockReader_readLength : zx_M := (⟨"SortedBlocks$BlockReader", "readLength", "(I)I"⟩, prog_6_method_11_code, 6, some .int)
abbrev M_BlockReader_readSymbols : zx_M := (⟨"SortedBlocks$BlockReader", "readSymbols", "(LSortedBlocks$Block;I)I"⟩, prog_6_method_12_code, 5, some .int)
abbrev M_BlockReader_readSymbol : zx_M := (⟨"SortedBlocks$BlockReader", "readSymbol", "(LSortedBlocks$Codes;)I"⟩, prog_6_method_13_code, 6, some .int)
abbrev M_BlockReader_addBytes : zx_M := (⟨"SortedBlocks$BlockReader", "addBytes", "(LSortedBlocks$Block;II)Z"⟩, prog_6_method_14_code, 8, some .boolean)
abbrev M_BlockReader_unsort : zx_M := (⟨"SortedBlocks$BlockReader", "unsort", "(LSortedBlocks$Block;)I"⟩, prog_6_method_15_code, 4, some .int)
abbrev M_BlockReader_findFollowers : zx_M := (⟨"SortedBlocks$BlockReader", "findFollowers", "(LSortedBlocks$Block;)V"⟩, prog_6_method_16_code, 5, none)
abbrev M_BlockReader_lengthen : zx_M := (⟨"SortedBlocks$BlockReader", "lengthen", "(LSortedBlocks$Block;LSortedBlocks$Row;)I"⟩, prog_6_method_17_code, 8, some .int)
abbrev M_BlockWriter_init : zx_M := (⟨"SortedBlocks$BlockWriter", "<init>", "(LSortedBlocks$Row;)V"⟩, prog_7_method_1_code, 3, none)
abbrev M_BlockWriter_writeHead : zx_M := (⟨"SortedBlocks$BlockWriter", "writeHead", "(I)V"⟩, prog_7_method_2_code, 2, none)
abbrev M_BlockWriter_writeEnd : zx_M := (⟨"SortedBlocks$BlockWriter", "writeEnd", "(I)V"⟩, prog_7_method_3_code, 2, none)
abbrev M_BlockWriter_writeBlock : zx_M := (⟨"SortedBlocks$BlockWriter", "writeBlock", "(LSortedBlocks$Block;)V"⟩, prog_7_method_4_code, 3, none)
abbrev M_BlockWriter_writeMap : zx_M := (⟨"SortedBlocks$BlockWriter", "writeMap", "(LSortedBlocks$Block;)V"⟩, prog_7_method_5_code, 5, none)
abbrev M_BlockWriter_writePicks : zx_M := (⟨"SortedBlocks$BlockWriter", "writePicks", "(LSortedBlocks$Block;)V"⟩, prog_7_method_6_code, 5, none)
abbrev M_BlockWriter_writeLengths : zx_M := (⟨"SortedBlocks$BlockWriter", "writeLengths", "([II)V"⟩, prog_7_method_7_code, 7, none)
abbrev M_BlockWriter_writeSymbols : zx_M := (⟨"SortedBlocks$BlockWriter", "writeSymbols", "(LSortedBlocks$Block;)V"⟩, prog_7_method_8_code, 5, none)
abbrev M_Codes_init : zx_M := (⟨"SortedBlocks$Codes", "<init>", "(I)V"⟩, prog_8_method_1_code, 2, none)
abbrev M_Codes_setTo : zx_M := (⟨"SortedBlocks$Codes", "setTo", "([II)V"⟩, prog_8_method_2_code, 6, none)
abbrev M_Codes_codeOf : zx_M := (⟨"SortedBlocks$Codes", "codeOf", "(I)I"⟩, prog_8_method_3_code, 2, some .int)
abbrev M_Codes_find : zx_M := (⟨"SortedBlocks$Codes", "find", "(II)I"⟩, prog_8_method_4_code, 4, some .int)
abbrev M_Codes_countLengths : zx_M := (⟨"SortedBlocks$Codes", "countLengths", "([II)V"⟩, prog_8_method_5_code, 4, none)
abbrev M_Codes_placeLengths : zx_M := (⟨"SortedBlocks$Codes", "placeLengths", "()V"⟩, prog_8_method_6_code, 4, none)
abbrev M_Codes_isLength : zx_M := (⟨"SortedBlocks$Codes", "isLength", "(I)Z"⟩, prog_8_method_7_code, 1, some .boolean)
abbrev M_Codes_mask : zx_M := (⟨"SortedBlocks$Codes", "mask", "(I)I"⟩, prog_8_method_8_code, 1, some .int)
abbrev M_MoveList_init : zx_M := (⟨"SortedBlocks$MoveList", "<init>", "()V"⟩, prog_9_method_1_code, 1, none)
abbrev M_MoveList_setTo : zx_M := (⟨"SortedBlocks$MoveList", "setTo", "([II)V"⟩, prog_9_method_2_code, 3, none)
abbrev M_MoveList_setToNumbers : zx_M := (⟨"SortedBlocks$MoveList", "setToNumbers", "(I)V"⟩, prog_9_method_3_code, 3, none)
abbrev M_MoveList_moveValue : zx_M := (⟨"SortedBlocks$MoveList", "moveValue", "(I)I"⟩, prog_9_method_4_code, 3, some .int)
abbrev M_MoveList_movePlace : zx_M := (⟨"SortedBlocks$MoveList", "movePlace", "(I)I"⟩, prog_9_method_5_code, 3, some .int)
abbrev M_Picker_init : zx_M := (⟨"SortedBlocks$Picker", "<init>", "()V"⟩, prog_10_method_1_code, 1, none)
abbrev M_Picker_pickTables : zx_M := (⟨"SortedBlocks$Picker", "pickTables", "(LSortedBlocks$Block;)V"⟩, prog_10_method_2_code, 4, none)
abbrev M_Picker_weigh : zx_M := (⟨"SortedBlocks$Picker", "weigh", "(LSortedBlocks$Block;I)V"⟩, prog_10_method_3_code, 4, none)
abbrev M_Picker_cheapest : zx_M := (⟨"SortedBlocks$Picker", "cheapest", "(LSortedBlocks$Block;I)I"⟩, prog_10_method_4_code, 5, some .int)
abbrev M_Picker_cost : zx_M := (⟨"SortedBlocks$Picker", "cost", "(LSortedBlocks$Block;II)I"⟩, prog_10_method_5_code, 7, some .int)
abbrev M_Row_init : zx_M := (⟨"SortedBlocks$Row", "<init>", "(I)V"⟩, prog_11_method_1_code, 2, none)
abbrev M_Row_hasRoom : zx_M := (⟨"SortedBlocks$Row", "hasRoom", "(I)Z"⟩, prog_11_method_2_code, 2, some .boolean)
abbrev M_Row_add : zx_M := (⟨"SortedBlocks$Row", "add", "(I)V"⟩, prog_11_method_3_code, 2, none)
abbrev M_Row_addAll : zx_M := (⟨"SortedBlocks$Row", "addAll", "(LSortedBlocks$Row;)V"⟩, prog_11_method_4_code, 2, none)
abbrev M_Row_cut : zx_M := (⟨"SortedBlocks$Row", "cut", "(I)V"⟩, prog_11_method_5_code, 2, none)
abbrev M_Row_get : zx_M := (⟨"SortedBlocks$Row", "get", "(I)I"⟩, prog_11_method_6_code, 2, some .int)
abbrev M_Row_turnBit : zx_M := (⟨"SortedBlocks$Row", "turnBit", "(I)V"⟩, prog_11_method_7_code, 2, none)
abbrev M_Trees_init : zx_M := (⟨"SortedBlocks$Trees", "<init>", "()V"⟩, prog_12_method_1_code, 1, none)
abbrev M_Trees_findLengths : zx_M := (⟨"SortedBlocks$Trees", "findLengths", "([II[I)V"⟩, prog_12_method_2_code, 4, none)
abbrev M_Trees_sortSymbols : zx_M := (⟨"SortedBlocks$Trees", "sortSymbols", "()V"⟩, prog_12_method_3_code, 3, none)
abbrev M_Trees_joinTrees : zx_M := (⟨"SortedBlocks$Trees", "joinTrees", "()V"⟩, prog_12_method_4_code, 4, none)
abbrev M_Trees_takeFirst : zx_M := (⟨"SortedBlocks$Trees", "takeFirst", "(I)I"⟩, prog_12_method_5_code, 4, some .int)
abbrev M_Trees_measureDepths : zx_M := (⟨"SortedBlocks$Trees", "measureDepths", "()V"⟩, prog_12_method_6_code, 3, none)
abbrev M_Law_feed : zx_M := (⟨"SortedBlocksLaw", "feed", "(LSortedBlocks;JI[J)I"⟩, method_3_code, 6, some .int)
abbrev M_Law_keep : zx_M := (⟨"SortedBlocksLaw", "keep", "(LSortedBlocks;I)I"⟩, method_4_code, 3, some .int)
abbrev M_Law_damage : zx_M := (⟨"SortedBlocksLaw", "damage", "(LSortedBlocks;I)I"⟩, method_5_code, 3, some .int)
abbrev M_Law_append : zx_M := (⟨"SortedBlocksLaw", "append", "(LSortedBlocks;[J)I"⟩, method_6_code, 3, some .int)
abbrev M_Law_pack : zx_M := (⟨"SortedBlocksLaw", "pack", "(LSortedBlocks;I[J)I"⟩, method_7_code, 4, some .int)
abbrev M_Law_unpack : zx_M := (⟨"SortedBlocksLaw", "unpack", "(LSortedBlocks;[J)I"⟩, method_8_code, 3, some .int)
abbrev M_Law_out : zx_M := (⟨"SortedBlocksLaw", "out", "(LSortedBlocks;I[J)I"⟩, method_9_code, 4, some .int)
abbrev M_Law_law : zx_M := (⟨"SortedBlocksLaw", "law", "([I)Z"⟩, code, maxLocals, ret)
abbrev M_Arrays_fill : zx_M := (⟨"java/util/Arrays", "fill", "([II)V"⟩, prog_25_method_103_code, 4, none)
end
section
/-! The layer: cells by numbers, ints and references by typed maps; X: the machine comes to its end from here; C: a method's contract. -/
abbrev zx_H : Type := (Nat × (Nat → Nat × Nat)) × (Nat → Nat → Int32) × (Nat → Nat → Nat) × (Nat → Nat → Int64)
abbrev zx_G : Type := ClassId × ClassId × ClassId × ClassId × ClassId
def zx_nul (α : Nat → Nat) (r : Nat) : Value := if r = 0 then .null else .ref (α r)
def zx_opt (α : Nat → Nat) (r : Nat) : Option Nat := if r = 0 then none else some (α r)
def zx_cv (α : Nat → Nat) (v : Value) : Value := match v with
  | .ref k => .ref (α k)
  | w => w
theorem zx_cv_cat (α : Nat → Nat) (v : Value) : (zx_cv α v).category = v.category := by cases v <;> rfl
def zx_fs (ft : List Bool) (α : Nat → Nat) (I : Nat → Int32) (R : Nat → Nat) : List Value := (List.range ft.length).map (fun j => if ft.getD j false = true then zx_nul α (R j) else .int (I j))
def zx_enc (G : zx_G) (α : Nat → Nat) (h : zx_H) (k : Nat) : va_E := match (h.1.2 k).1 with
  | 0 => .inl (G.1, (h.1.2 k).2, .inl (h.2.1 k))
  | 1 => .inl (G.2.1, (h.1.2 k).2, .inl (h.2.1 k))
  | 2 => .inl (G.2.2.1, (h.1.2 k).2, .inr (.inl (h.2.2.2 k)))
  | 3 => .inl (G.2.2.2.1, (h.1.2 k).2, .inr (.inr (.inr (.inr (fun j => zx_opt α (h.2.2.1 k j))))))
  | 4 => .inl (G.2.2.2.2, (h.1.2 k).2, .inr (.inr (.inr (.inr (fun j => zx_opt α (h.2.2.1 k j))))))
  | t + 5 => .inr (t, zx_fs (zx_ft t) α (h.2.1 k) (h.2.2.1 k))
def zx_wl (G : zx_G) (α : Nat → Nat) (h : zx_H) : va_W := (List.range h.1.1).map (fun k => (α (k + 1), zx_enc G α h (k + 1)))
/-- what exists: cells 1 .. n; lengths are small -/
def zx_ok (h : zx_H) : Prop := ∀ k, (h.1.2 k).1 < 100 → 0 < k ∧ k ≤ h.1.1 ∧ (h.1.2 k).2 < 2 ^ 31
/-- while cells are made: which address the next one has -/
def zx_fr (α : Nat → Nat) (sz : Nat) (h : zx_H) : Prop := ∀ k, α (k + 1) + h.1.1 = k + sz
theorem zx_wl_at {G : zx_G} {α : Nat → Nat} {h : zx_H} {k : Nat} (h1 : 0 < k) (h2 : k ≤ h.1.1) : (zx_wl G α h)[k - 1]? = some (α k, zx_enc G α h k) := by
  unfold zx_wl
  rw [List.getElem?_map, List.getElem?_range (by omega)]
  simp only [Option.map_some]
  rw [show k - 1 + 1 = k by omega]
theorem zx_wl_len {G : zx_G} {α : Nat → Nat} {h : zx_H} : (zx_wl G α h).length = h.1.1 := by simp [zx_wl]
theorem zx_enc_congr {G : zx_G} {α : Nat → Nat} {h h' : zx_H} {k : Nat} (hn : h'.1 = h.1) (hI : h'.2.1 k = h.2.1 k) (hR : h'.2.2.1 k = h.2.2.1 k) (hJ : h'.2.2.2 k = h.2.2.2 k) : zx_enc G α h' k = zx_enc G α h k := by
  unfold zx_enc
  rw [hn, hI, hR, hJ]
theorem zx_wl_set {G : zx_G} {α : Nat → Nat} {h h' : zx_H} {p : Nat} (hn : h'.1 = h.1) (hI : ∀ k, k ≠ p → h'.2.1 k = h.2.1 k) (hR : ∀ k, k ≠ p → h'.2.2.1 k = h.2.2.1 k) (hJ : ∀ k, k ≠ p → h'.2.2.2 k = h.2.2.2 k) (h1 : 0 < p) (h2 : p ≤ h.1.1) :
    (zx_wl G α h).set (p - 1) (α p, zx_enc G α h' p) = zx_wl G α h' := by
  apply List.ext_getElem?
  intro i
  by_cases hi : i = p - 1
  · subst hi
    rw [List.getElem?_set_self (by rw [zx_wl_len]; omega), zx_wl_at (h := h') h1 (by rw [hn]; exact h2)]
  · rw [List.getElem?_set_ne (fun q => hi q.symm)]
    by_cases hl : i < h.1.1
    · have a1 := zx_wl_at (G := G) (α := α) (h := h) (k := i + 1) (by omega) (by omega)
      have a2 := zx_wl_at (G := G) (α := α) (h := h') (k := i + 1) (by omega) (by rw [hn]; omega)
      rw [Nat.add_sub_cancel] at a1 a2
      rw [a1, a2, zx_enc_congr hn (hI _ (by omega)) (hR _ (by omega)) (hJ _ (by omega))]
    · rw [List.getElem?_eq_none (by rw [zx_wl_len]; omega), List.getElem?_eq_none (by rw [zx_wl_len, hn]; omega)]
/-- locals: read, set -/
def zx_get (i : Nat) : List (Nat × Value) → Option Value
  | [] => none
  | q :: t => if q.1 = i then some q.2 else zx_get i t
def zx_set (i : Nat) (v : Value) (L : List (Nat × Value)) : List (Nat × Value) := L.filter (fun q => Nat.blt q.1 i && !(q.1 + 1 == i && q.2.category == 2)) ++ (i, v) :: L.filter (fun q => Nat.blt i q.1)
def zx_set2 (i : Nat) (v : Value) (L : List (Nat × Value)) : List (Nat × Value) := L.filter (fun q => Nat.blt q.1 i && !(q.1 + 1 == i && q.2.category == 2)) ++ (i, v) :: L.filter (fun q => Nat.blt (i + 1) q.1)
abbrev zx_lm (α : Nat → Nat) (L : List (Nat × Value)) : List (Nat × Value) := L.map (fun q => (q.1, zx_cv α q.2))
theorem zx_get_mem {i : Nat} {v : Value} : ∀ {L : List (Nat × Value)}, zx_get i L = some v → (i, v) ∈ L
  | [], h => by cases h
  | q :: t, h => by
    unfold zx_get at h
    by_cases hq : q.1 = i
    · rw [if_pos hq] at h
      cases h
      subst hq
      exact List.mem_cons_self
    · rw [if_neg hq] at h
      exact List.mem_cons_of_mem _ (zx_get_mem h)
theorem zx_at {ls : Array Slot} {n : Nat} {α : Nat → Nat} {L : List (Nat × Value)} (h : lv_has ls n (zx_lm α L)) {i : Nat} {v : Value} (g : zx_get i L = some v) : ls[i]? = some (.val (zx_cv α v)) := h.2.2 (i, zx_cv α v) (List.mem_map.mpr ⟨(i, v), zx_get_mem g, rfl⟩)
theorem zx_has_sub {ls : Array Slot} {n : Nat} {l l' : List (Nat × Value)} (h : lv_has ls n l) (hs : ∀ q ∈ l', q ∈ l) : lv_has ls n l' := ⟨h.1, h.2.1, fun q hq => h.2.2 q (hs q hq)⟩
theorem zx_set_sub {α : Nat → Nat} {L : List (Nat × Value)} {i : Nat} {v : Value} : ∀ q ∈ zx_lm α (zx_set i v L), q ∈ (i, zx_cv α v) :: (zx_lm α L).filter (fun q => !(q.1 == i) && !(q.1 + 1 == i && q.2.category == 2)) := by
  intro q hq
  obtain ⟨a, ha, rfl⟩ := List.mem_map.mp hq
  unfold zx_set at ha
  rcases List.mem_append.mp ha with h | h
  · obtain ⟨h1, h2⟩ := List.mem_filter.mp h
    simp only [Bool.and_eq_true] at h2
    obtain ⟨h3, h4⟩ := h2
    have h3 : a.1 < i := by simpa using h3
    refine List.mem_cons_of_mem _ (List.mem_filter.mpr ⟨List.mem_map.mpr ⟨a, h1, rfl⟩, ?_⟩)
    simp only [zx_cv_cat, Bool.and_eq_true]
    exact ⟨by simp; omega, h4⟩
  · rcases List.mem_cons.mp h with rfl | h
    · exact List.mem_cons_self
    · obtain ⟨h1, h2⟩ := List.mem_filter.mp h
      have h3 : i < a.1 := by simpa using h2
      refine List.mem_cons_of_mem _ (List.mem_filter.mpr ⟨List.mem_map.mpr ⟨a, h1, rfl⟩, ?_⟩)
      simp only [Bool.and_eq_true]
      refine ⟨by simp; omega, ?_⟩
      have : (a.1 + 1 == i) = false := by simp; omega
      simp [this]
theorem zx_set2_sub {α : Nat → Nat} {L : List (Nat × Value)} {i : Nat} {v : Value} : ∀ q ∈ zx_lm α (zx_set2 i v L), q ∈ (i, zx_cv α v) :: (zx_lm α L).filter (fun q => !(q.1 == i) && (!(q.1 == i + 1) && !(q.1 + 1 == i && q.2.category == 2))) := by
  intro q hq
  obtain ⟨a, ha, rfl⟩ := List.mem_map.mp hq
  unfold zx_set2 at ha
  rcases List.mem_append.mp ha with h | h
  · obtain ⟨h1, h2⟩ := List.mem_filter.mp h
    simp only [Bool.and_eq_true] at h2
    obtain ⟨h3, h4⟩ := h2
    have h3 : a.1 < i := by simpa using h3
    refine List.mem_cons_of_mem _ (List.mem_filter.mpr ⟨List.mem_map.mpr ⟨a, h1, rfl⟩, ?_⟩)
    simp only [zx_cv_cat, Bool.and_eq_true]
    exact ⟨by simp; omega, by simp; omega, h4⟩
  · rcases List.mem_cons.mp h with rfl | h
    · exact List.mem_cons_self
    · obtain ⟨h1, h2⟩ := List.mem_filter.mp h
      have h3 : i + 1 < a.1 := by simpa using h2
      refine List.mem_cons_of_mem _ (List.mem_filter.mpr ⟨List.mem_map.mpr ⟨a, h1, rfl⟩, ?_⟩)
      simp only [Bool.and_eq_true]
      refine ⟨by simp; omega, by simp; omega, ?_⟩
      have : (a.1 + 1 == i) = false := by simp; omega
      simp [this]
/-- heap updates -/
def zx_u2 {β : Type} (f : Nat → Nat → β) (p j : Nat) (v : β) : Nat → Nat → β := fun q i => if q = p ∧ i = j then v else f q i
def zx_upI (h : zx_H) (p j : Nat) (v : Int32) : zx_H := (h.1, zx_u2 h.2.1 p j v, h.2.2)
def zx_upR (h : zx_H) (p j : Nat) (v : Nat) : zx_H := (h.1, h.2.1, zx_u2 h.2.2.1 p j v, h.2.2.2)
def zx_upJ (h : zx_H) (p j : Nat) (v : Int64) : zx_H := (h.1, h.2.1, h.2.2.1, zx_u2 h.2.2.2 p j v)
theorem zx_u2_off {β : Type} {f : Nat → Nat → β} {p j : Nat} {v : β} {q : Nat} (h : q ≠ p) : zx_u2 f p j v q = f q := by
  funext i
  simp [zx_u2, h]
theorem zx_u2_on {f : Nat → Nat → Int32} {p j : Nat} {v : Int32} : zx_u2 f p j v p = upd (f p) j v := by
  funext i
  simp [zx_u2, upd]
theorem zx_u2_onL {f : Nat → Nat → Int64} {p j : Nat} {v : Int64} : zx_u2 f p j v p = vp_updL (f p) j v := by
  funext i
  simp [zx_u2, vp_updL]
/-- tables and classes -/
def zx_K (D : va_G) (G : zx_G) (U : State) : Prop := va_K D zx_cl [(G.1, .int), (G.2.1, .boolean), (G.2.2.1, .long), (G.2.2.2.1, .object zx_CQ), (G.2.2.2.2, .array .int)] U
def zx_R (D : va_G) (G : zx_G) (α : Nat → Nat) (A : Nat → Prop) (fl : Bool) (kc : Nat) (h : zx_H) (s : State) (H : Heap) (locs : List Loc) : Prop :=
  zx_K D G s ∧ (∀ q, s.heap.size ≤ q → A q) ∧ va_P D zx_cl (zx_wl G α h) H ∧ va_D A (zx_wl G α h) ∧ va_S A s.heap H locs ∧ zx_ok h ∧ (fl = true → zx_fr α (s.heap.size + kc) h ∧ kc ≤ h.1.1)
def zx_Cx (M : zx_M) (p : Program) (s : State) (m : MethodId) (args : Array Value) (meth : Method) (c : Code) : Prop :=
  p.tables.exec = Jvm.exec ∧ c.code = M.2.1 ∧ c.maxLocals = M.2.2.1 ∧ meth.sig.returnType = M.2.2.2 ∧ meth.locks = false ∧ s.vm.findClass M.1.cls = some m.cls ∧ (∀ w ∈ zx_T, w.before args s = true) ∧ (M.1.name = "<init>" → meth.name = "<init>")
abbrev zx_Zt : Type := va_G → zx_G → (Nat → Nat) → (Nat → Prop) → State → Array Value → List Frame → State → Prop
def zx_X (l : Launch) (rm : Room) (M : zx_M) (fl : Bool) (kc ks : Nat) (Z : zx_Zt) (pc : Nat) (L : List (Nat × Value)) (S : List Value) (h : zx_H) : Prop :=
  ∀ (D : va_G) (G : zx_G) (α : Nat → Nat) (A : Nat → Prop) (p : Program) (e : Env) (s : State) (m : MethodId) (args : Array Value) (below : List Frame) (meth : Method) (c : Code) (H : Heap) (locs : List Loc) (ls : Array Slot),
    zx_Cx M p s m args meth c → zx_R D G α A fl kc h s H locs → lv_has ls M.2.2.1 (zx_lm α L) →
    W p l e rm s m args below meth c H locs kc ks (Z D G α A s args below) (F0 m pc ls (S.map (zx_cv α)))
def zx_ws (M : zx_M) : List Cond := .code M.1 M.2.1 M.2.2.1 M.2.2.2 :: zx_T
def zx_Qc (D : va_G) (G : zx_G) (α : Nat → Nat) (fl : Bool) (mc : Nat) (Q : Option Value → zx_H → Prop) (A : Nat → Prop) : Array Value → State → Outcome → State → Prop := fun _ st o t =>
  (∃ (r : Option Value) (h' : zx_H), o = .returned (r.map (zx_cv α)) ∧ Q r h' ∧ va_P D zx_cl (zx_wl G α h') t.heap ∧ va_D A (zx_wl G α h') ∧ zx_K D G t ∧ zx_ok h' ∧ (fl = true → zx_fr α (st.heap.size + mc) h' ∧ mc ≤ h'.1.1)) ∧ va_F A st t
/-- a method's end by a return -/
def zx_Zr (fl : Bool) (rm : Room) (Q : Option Value → zx_H → Prop) : zx_Zt := fun D G α A s args below => MQ below (zx_Qc D G α fl rm.cells Q A) args s rm.cells rm.slots A
def zx_C (l : Launch) (rm : Room) (M : zx_M) (fl : Bool) (As : List Value) (h : zx_H) (Q : Option Value → zx_H → Prop) : Prop :=
  ∀ (D : va_G) (G : zx_G) (α : Nat → Nat) (sz : Nat), Met l M.1 (zx_ws M) rm
    (va_Pc (As.map (zx_cv α)) (fun U => U.heap.size = sz ∧ va_P D zx_cl (zx_wl G α h) U.heap ∧ zx_K D G U ∧ va_D (fun _ => True) (zx_wl G α h) ∧ zx_ok h ∧ (fl = true → zx_fr α sz h)))
    (zx_Qc D G α fl rm.cells Q (va_A (zx_wl G α h) sz)) rm.cells rm.slots (va_A (zx_wl G α h) sz)
theorem zx_args_map (α : Nat → Nat) : ∀ (vs : List Value) (i : Nat), lv_args i (vs.map (zx_cv α)) = zx_lm α (lv_args i vs)
  | [], _ => rfl
  | v :: vs, i => by
    show (i, zx_cv α v) :: lv_args (if (zx_cv α v).category = 2 then i + 2 else i + 1) (vs.map (zx_cv α)) = (i, zx_cv α v) :: zx_lm α (lv_args (if v.category = 2 then i + 2 else i + 1) vs)
    rw [zx_cv_cat, zx_args_map α vs]
set_option maxRecDepth 20000 in
theorem zx_C.of {l : Launch} {rm : Room} {M : zx_M} {fl : Bool} {As : List Value} {h : zx_H} {Q : Option Value → zx_H → Prop} (hy : plainName M.1.cls = true) (hn : ∀ α : Nat → Nat, (lg_sl (As.map (zx_cv α))).length ≤ M.2.2.1)
    (k : zx_X l rm M fl 0 0 (zx_Zr fl rm Q) 0 (lv_args 0 As) [] h) : zx_C l rm M fl As h Q := by
  intro D G α sz
  refine Met.ofW (cc := M.2.1) (maxL := M.2.2.1) (ret := M.2.2.2) hy rfl ?_
  intro p e s m args below meth c s₁ B hml hv
  obtain ⟨rfl, hsz, hP, hK, hD0, hok, hfr⟩ := hv
  subst hsz
  have hD := hD0.self (sz := s.heap.size)
  have hl := lv_entry (As.map (zx_cv α)) (n := M.2.2.1) (hn α)
  rw [lg_entry_eq]
  have hts := atoms_spec (ws := zx_ws M) B.pre
  rw [zx_args_map] at hl
  exact k D G α _ p e s m _ below meth c s.heap [] _ ⟨B.exec, B.bytes, hml, B.returns, B.notSynchronized, findClass_of_methodNamed B.named, fun w hw => hts w (List.mem_cons_of_mem _ hw), fun q => (name_of_methodNamed B.named B.method).1.trans q⟩
    ⟨hK, fun q hq => Or.inr hq, hP, hD, va_S.rf, hok, fun q => ⟨hfr q, Nat.zero_le _⟩⟩ hl
section ZX
variable {l : Launch} {rm : Room} {M : zx_M} {fl : Bool} {kc ks : Nat} {Z : zx_Zt} {pc : Nat} {L : List (Nat × Value)} {S : List Value} {h : zx_H}
theorem zx_iadd {x y : Int32} (d : decode M.2.1 pc = .ok (.iadd, 1))  (k : zx_X l rm M fl kc ks Z (pc + 1) L (.int (x + y) :: S) h) : zx_X l rm M fl kc ks Z pc L (.int y :: .int x :: S) h := fun D G α A p e s m args below meth c H locs ls C R hl => lv_iadd C.1 C.2.1 d  (k D G α A p e s m args below meth c H locs ls C R hl)
theorem zx_isub {x y : Int32} (d : decode M.2.1 pc = .ok (.isub, 1))  (k : zx_X l rm M fl kc ks Z (pc + 1) L (.int (x - y) :: S) h) : zx_X l rm M fl kc ks Z pc L (.int y :: .int x :: S) h := fun D G α A p e s m args below meth c H locs ls C R hl => lv_isub C.1 C.2.1 d  (k D G α A p e s m args below meth c H locs ls C R hl)
theorem zx_imul {x y : Int32} (d : decode M.2.1 pc = .ok (.imul, 1))  (k : zx_X l rm M fl kc ks Z (pc + 1) L (.int (x * y) :: S) h) : zx_X l rm M fl kc ks Z pc L (.int y :: .int x :: S) h := fun D G α A p e s m args below meth c H locs ls C R hl => lv_imul C.1 C.2.1 d  (k D G α A p e s m args below meth c H locs ls C R hl)
theorem zx_iand {x y : Int32} (d : decode M.2.1 pc = .ok (.iand, 1))  (k : zx_X l rm M fl kc ks Z (pc + 1) L (.int (x &&& y) :: S) h) : zx_X l rm M fl kc ks Z pc L (.int y :: .int x :: S) h := fun D G α A p e s m args below meth c H locs ls C R hl => lv_iand C.1 C.2.1 d  (k D G α A p e s m args below meth c H locs ls C R hl)
theorem zx_ior {x y : Int32} (d : decode M.2.1 pc = .ok (.ior, 1))  (k : zx_X l rm M fl kc ks Z (pc + 1) L (.int (x ||| y) :: S) h) : zx_X l rm M fl kc ks Z pc L (.int y :: .int x :: S) h := fun D G α A p e s m args below meth c H locs ls C R hl => lv_ior C.1 C.2.1 d  (k D G α A p e s m args below meth c H locs ls C R hl)
theorem zx_ixor {x y : Int32} (d : decode M.2.1 pc = .ok (.ixor, 1))  (k : zx_X l rm M fl kc ks Z (pc + 1) L (.int (x ^^^ y) :: S) h) : zx_X l rm M fl kc ks Z pc L (.int y :: .int x :: S) h := fun D G α A p e s m args below meth c H locs ls C R hl => lv_ixor C.1 C.2.1 d  (k D G α A p e s m args below meth c H locs ls C R hl)
theorem zx_idiv {x y : Int32} (d : decode M.2.1 pc = .ok (.idiv, 1)) (hne : ¬ y = 0) (k : zx_X l rm M fl kc ks Z (pc + 1) L (.int (x / y) :: S) h) : zx_X l rm M fl kc ks Z pc L (.int y :: .int x :: S) h := fun D G α A p e s m args below meth c H locs ls C R hl => lv_idiv C.1 C.2.1 d hne (k D G α A p e s m args below meth c H locs ls C R hl)
theorem zx_irem {x y : Int32} (d : decode M.2.1 pc = .ok (.irem, 1)) (hne : ¬ y = 0) (k : zx_X l rm M fl kc ks Z (pc + 1) L (.int (x - x / y * y) :: S) h) : zx_X l rm M fl kc ks Z pc L (.int y :: .int x :: S) h := fun D G α A p e s m args below meth c H locs ls C R hl => lv_irem C.1 C.2.1 d hne (k D G α A p e s m args below meth c H locs ls C R hl)
theorem zx_ishl {x y : Int32} (d : decode M.2.1 pc = .ok (.ishl, 1))  (k : zx_X l rm M fl kc ks Z (pc + 1) L (.int (x <<< (y &&& 31)) :: S) h) : zx_X l rm M fl kc ks Z pc L (.int y :: .int x :: S) h := fun D G α A p e s m args below meth c H locs ls C R hl => lv_ishl C.1 C.2.1 d  (k D G α A p e s m args below meth c H locs ls C R hl)
theorem zx_ishr {x y : Int32} (d : decode M.2.1 pc = .ok (.ishr, 1))  (k : zx_X l rm M fl kc ks Z (pc + 1) L (.int (x >>> (y &&& 31)) :: S) h) : zx_X l rm M fl kc ks Z pc L (.int y :: .int x :: S) h := fun D G α A p e s m args below meth c H locs ls C R hl => lv_ishr C.1 C.2.1 d  (k D G α A p e s m args below meth c H locs ls C R hl)
theorem zx_iushr {x y : Int32} (d : decode M.2.1 pc = .ok (.iushr, 1))  (k : zx_X l rm M fl kc ks Z (pc + 1) L (.int ((x.toUInt32 >>> (y.toUInt32 &&& Int32.toUInt32 31)).toInt32) :: S) h) : zx_X l rm M fl kc ks Z pc L (.int y :: .int x :: S) h := fun D G α A p e s m args below meth c H locs ls C R hl => lv_iushr C.1 C.2.1 d rfl (k D G α A p e s m args below meth c H locs ls C R hl)
theorem zx_ineg {x : Int32} (d : decode M.2.1 pc = .ok (.ineg, 1))  (k : zx_X l rm M fl kc ks Z (pc + 1) L (.int (-x) :: S) h) : zx_X l rm M fl kc ks Z pc L (.int x :: S) h := fun D G α A p e s m args below meth c H locs ls C R hl => lv_ineg C.1 C.2.1 d  (k D G α A p e s m args below meth c H locs ls C R hl)
theorem zx_land {x y : Int64} (d : decode M.2.1 pc = .ok (.land, 1))  (k : zx_X l rm M fl kc ks Z (pc + 1) L (.long (x &&& y) :: S) h) : zx_X l rm M fl kc ks Z pc L (.long y :: .long x :: S) h := fun D G α A p e s m args below meth c H locs ls C R hl => lv_land C.1 C.2.1 d  (k D G α A p e s m args below meth c H locs ls C R hl)
theorem zx_lor {x y : Int64} (d : decode M.2.1 pc = .ok (.lor, 1))  (k : zx_X l rm M fl kc ks Z (pc + 1) L (.long (x ||| y) :: S) h) : zx_X l rm M fl kc ks Z pc L (.long y :: .long x :: S) h := fun D G α A p e s m args below meth c H locs ls C R hl => lv_lor C.1 C.2.1 d  (k D G α A p e s m args below meth c H locs ls C R hl)
theorem zx_lushr {x : Int64} {y : Int32} (d : decode M.2.1 pc = .ok (.lushr, 1))  (k : zx_X l rm M fl kc ks Z (pc + 1) L (.long ((x.toUInt64 >>> (y.toInt64.toUInt64 &&& Int64.toUInt64 63)).toInt64) :: S) h) : zx_X l rm M fl kc ks Z pc L (.int y :: .long x :: S) h := fun D G α A p e s m args below meth c H locs ls C R hl => lv_lushr C.1 C.2.1 d rfl (k D G α A p e s m args below meth c H locs ls C R hl)
theorem zx_lshl {x : Int64} {y : Int32} (d : decode M.2.1 pc = .ok (.lshl, 1))  (k : zx_X l rm M fl kc ks Z (pc + 1) L (.long (x <<< (y.toInt64 &&& 63)) :: S) h) : zx_X l rm M fl kc ks Z pc L (.int y :: .long x :: S) h := fun D G α A p e s m args below meth c H locs ls C R hl => lv_lshl C.1 C.2.1 d rfl (k D G α A p e s m args below meth c H locs ls C R hl)
theorem zx_i2l {x : Int32} (d : decode M.2.1 pc = .ok (.i2l, 1))  (k : zx_X l rm M fl kc ks Z (pc + 1) L (.long x.toInt64 :: S) h) : zx_X l rm M fl kc ks Z pc L (.int x :: S) h := fun D G α A p e s m args below meth c H locs ls C R hl => lv_i2l C.1 C.2.1 d rfl (k D G α A p e s m args below meth c H locs ls C R hl)
theorem zx_l2i {x : Int64} (d : decode M.2.1 pc = .ok (.l2i, 1))  (k : zx_X l rm M fl kc ks Z (pc + 1) L (.int x.toInt32 :: S) h) : zx_X l rm M fl kc ks Z pc L (.long x :: S) h := fun D G α A p e s m args below meth c H locs ls C R hl => lv_l2i C.1 C.2.1 d rfl (k D G α A p e s m args below meth c H locs ls C R hl)
theorem zx_lcmp {x y : Int64} (d : decode M.2.1 pc = .ok (.lcmp, 1))  (k : zx_X l rm M fl kc ks Z (pc + 1) L (.int (lg_cmp x y) :: S) h) : zx_X l rm M fl kc ks Z pc L (.long y :: .long x :: S) h := fun D G α A p e s m args below meth c H locs ls C R hl => W.lcmp C.1 C.2.1 d  (k D G α A p e s m args below meth c H locs ls C R hl)
theorem zx_iconst {n : Int} {v : Int32} (d : decode M.2.1 pc = .ok (.iconst n, 1)) (hv : Int32.ofInt n = v) (k : zx_X l rm M fl kc ks Z (pc + 1) L (.int v :: S) h) : zx_X l rm M fl kc ks Z pc L (S) h := fun D G α A p e s m args below meth c H locs ls C R hl => lv_iconst C.1 C.2.1 d hv (k D G α A p e s m args below meth c H locs ls C R hl)
theorem zx_bipush {n : Int} {v : Int32} (d : decode M.2.1 pc = .ok (.bipush n, 2)) (hv : (Int8.ofInt n).toInt32 = v) (k : zx_X l rm M fl kc ks Z (pc + 2) L (.int v :: S) h) : zx_X l rm M fl kc ks Z pc L (S) h := fun D G α A p e s m args below meth c H locs ls C R hl => lv_bipush C.1 C.2.1 d hv (k D G α A p e s m args below meth c H locs ls C R hl)
theorem zx_sipush {n : Int} {v : Int32} (d : decode M.2.1 pc = .ok (.sipush n, 3)) (hv : (Int16.ofInt n).toInt32 = v) (k : zx_X l rm M fl kc ks Z (pc + 3) L (.int v :: S) h) : zx_X l rm M fl kc ks Z pc L (S) h := fun D G α A p e s m args below meth c H locs ls C R hl => lv_sipush C.1 C.2.1 d hv (k D G α A p e s m args below meth c H locs ls C R hl)
theorem zx_dup_i {x : Int32} (d : decode M.2.1 pc = .ok (.dup, 1))  (k : zx_X l rm M fl kc ks Z (pc + 1) L (.int x :: .int x :: S) h) : zx_X l rm M fl kc ks Z pc L (.int x :: S) h := fun D G α A p e s m args below meth c H locs ls C R hl => lv_dup C.1 C.2.1 d rfl (k D G α A p e s m args below meth c H locs ls C R hl)
theorem zx_pop_i {x : Int32} (d : decode M.2.1 pc = .ok (.pop, 1))  (k : zx_X l rm M fl kc ks Z (pc + 1) L (S) h) : zx_X l rm M fl kc ks Z pc L (.int x :: S) h := fun D G α A p e s m args below meth c H locs ls C R hl => lv_pop C.1 C.2.1 d rfl (k D G α A p e s m args below meth c H locs ls C R hl)
theorem zx_dup_a {x : Nat} (d : decode M.2.1 pc = .ok (.dup, 1))  (k : zx_X l rm M fl kc ks Z (pc + 1) L (.ref x :: .ref x :: S) h) : zx_X l rm M fl kc ks Z pc L (.ref x :: S) h := fun D G α A p e s m args below meth c H locs ls C R hl => lv_dup C.1 C.2.1 d rfl (k D G α A p e s m args below meth c H locs ls C R hl)
theorem zx_pop_a {x : Nat} (d : decode M.2.1 pc = .ok (.pop, 1))  (k : zx_X l rm M fl kc ks Z (pc + 1) L (S) h) : zx_X l rm M fl kc ks Z pc L (.ref x :: S) h := fun D G α A p e s m args below meth c H locs ls C R hl => lv_pop C.1 C.2.1 d rfl (k D G α A p e s m args below meth c H locs ls C R hl)
theorem zx_dup2_ai {x : Int32} {y : Nat} (d : decode M.2.1 pc = .ok (.dup2, 1))  (k : zx_X l rm M fl kc ks Z (pc + 1) L (.int x :: .ref y :: .int x :: .ref y :: S) h) : zx_X l rm M fl kc ks Z pc L (.int x :: .ref y :: S) h := fun D G α A p e s m args below meth c H locs ls C R hl => lv_dup2_11 C.1 C.2.1 d rfl rfl (k D G α A p e s m args below meth c H locs ls C R hl)
theorem zx_iload_n {i : Fin 4} {x : Int32} (d : decode M.2.1 pc = .ok (.iload_n i, 1)) (g : zx_get i L = some (.int x)) (k : zx_X l rm M fl kc ks Z (pc + 1) L (.int x :: S) h) : zx_X l rm M fl kc ks Z pc L S h := fun D G α A p e s m args below meth c H locs ls C R hl => lv_iload_n C.1 C.2.1 d rfl (zx_at hl g) (k D G α A p e s m args below meth c H locs ls C R hl)
theorem zx_iload {i : Nat} {x : Int32} (d : decode M.2.1 pc = .ok (.iload i, 2)) (g : zx_get i L = some (.int x)) (k : zx_X l rm M fl kc ks Z (pc + 2) L (.int x :: S) h) : zx_X l rm M fl kc ks Z pc L S h := fun D G α A p e s m args below meth c H locs ls C R hl => lv_iload C.1 C.2.1 d (zx_at hl g) (k D G α A p e s m args below meth c H locs ls C R hl)
theorem zx_lload_n {i : Fin 4} {x : Int64} (d : decode M.2.1 pc = .ok (.lload_n i, 1)) (g : zx_get i L = some (.long x)) (k : zx_X l rm M fl kc ks Z (pc + 1) L (.long x :: S) h) : zx_X l rm M fl kc ks Z pc L S h := fun D G α A p e s m args below meth c H locs ls C R hl => lv_lload_n C.1 C.2.1 d rfl (zx_at hl g) (k D G α A p e s m args below meth c H locs ls C R hl)
theorem zx_lload {i : Nat} {x : Int64} (d : decode M.2.1 pc = .ok (.lload i, 2)) (g : zx_get i L = some (.long x)) (k : zx_X l rm M fl kc ks Z (pc + 2) L (.long x :: S) h) : zx_X l rm M fl kc ks Z pc L S h := fun D G α A p e s m args below meth c H locs ls C R hl => lv_lload C.1 C.2.1 d (zx_at hl g) (k D G α A p e s m args below meth c H locs ls C R hl)
theorem zx_aload_n {i : Fin 4} {x : Nat} (d : decode M.2.1 pc = .ok (.aload_n i, 1)) (g : zx_get i L = some (.ref x)) (k : zx_X l rm M fl kc ks Z (pc + 1) L (.ref x :: S) h) : zx_X l rm M fl kc ks Z pc L S h := fun D G α A p e s m args below meth c H locs ls C R hl => lv_aload_n C.1 C.2.1 d rfl (zx_at hl g) (k D G α A p e s m args below meth c H locs ls C R hl)
theorem zx_aload {i : Nat} {x : Nat} (d : decode M.2.1 pc = .ok (.aload i, 2)) (g : zx_get i L = some (.ref x)) (k : zx_X l rm M fl kc ks Z (pc + 2) L (.ref x :: S) h) : zx_X l rm M fl kc ks Z pc L S h := fun D G α A p e s m args below meth c H locs ls C R hl => lv_aload C.1 C.2.1 d (zx_at hl g) (k D G α A p e s m args below meth c H locs ls C R hl)
theorem zx_istore_n {i : Fin 4} {x : Int32} {L2 : List (Nat × Value)} (d : decode M.2.1 pc = .ok (.istore_n i, 1)) (hn : (i : Nat) < M.2.2.1) (hL : zx_set i (.int x) L = L2) (k : zx_X l rm M fl kc ks Z (pc + 1) L2 S h) : zx_X l rm M fl kc ks Z pc L (.int x :: S) h := fun D G α A p e s m args below meth c H locs ls C R hl => lv_istore_n C.1 C.2.1 d rfl hl hn rfl (fun ls2 h2 => k D G α A p e s m args below meth c H locs ls2 C R (zx_has_sub h2 (hL ▸ zx_set_sub)))
theorem zx_istore {i : Nat} {x : Int32} {L2 : List (Nat × Value)} (d : decode M.2.1 pc = .ok (.istore i, 2)) (hn : i < M.2.2.1) (hL : zx_set i (.int x) L = L2) (k : zx_X l rm M fl kc ks Z (pc + 2) L2 S h) : zx_X l rm M fl kc ks Z pc L (.int x :: S) h := fun D G α A p e s m args below meth c H locs ls C R hl => lv_istore C.1 C.2.1 d hl hn rfl (fun ls2 h2 => k D G α A p e s m args below meth c H locs ls2 C R (zx_has_sub h2 (hL ▸ zx_set_sub)))
theorem zx_astore_n {i : Fin 4} {x : Nat} {L2 : List (Nat × Value)} (d : decode M.2.1 pc = .ok (.astore_n i, 1)) (hn : (i : Nat) < M.2.2.1) (hL : zx_set i (.ref x) L = L2) (k : zx_X l rm M fl kc ks Z (pc + 1) L2 S h) : zx_X l rm M fl kc ks Z pc L (.ref x :: S) h := fun D G α A p e s m args below meth c H locs ls C R hl => lv_astore_n C.1 C.2.1 d rfl hl hn rfl (fun ls2 h2 => k D G α A p e s m args below meth c H locs ls2 C R (zx_has_sub h2 (hL ▸ zx_set_sub)))
theorem zx_astore {i : Nat} {x : Nat} {L2 : List (Nat × Value)} (d : decode M.2.1 pc = .ok (.astore i, 2)) (hn : i < M.2.2.1) (hL : zx_set i (.ref x) L = L2) (k : zx_X l rm M fl kc ks Z (pc + 2) L2 S h) : zx_X l rm M fl kc ks Z pc L (.ref x :: S) h := fun D G α A p e s m args below meth c H locs ls C R hl => lv_astore C.1 C.2.1 d hl hn rfl (fun ls2 h2 => k D G α A p e s m args below meth c H locs ls2 C R (zx_has_sub h2 (hL ▸ zx_set_sub)))
theorem zx_lstore_n {i : Fin 4} {x : Int64} {L2 : List (Nat × Value)} (d : decode M.2.1 pc = .ok (.lstore_n i, 1)) (hn : (i : Nat) + 1 < M.2.2.1) (hL : zx_set2 i (.long x) L = L2) (k : zx_X l rm M fl kc ks Z (pc + 1) L2 S h) : zx_X l rm M fl kc ks Z pc L (.long x :: S) h := fun D G α A p e s m args below meth c H locs ls C R hl => lv_lstore_n C.1 C.2.1 d rfl hl hn rfl (fun ls2 h2 => k D G α A p e s m args below meth c H locs ls2 C R (zx_has_sub h2 (hL ▸ zx_set2_sub)))
theorem zx_lstore {i : Nat} {x : Int64} {L2 : List (Nat × Value)} (d : decode M.2.1 pc = .ok (.lstore i, 2)) (hn : i + 1 < M.2.2.1) (hL : zx_set2 i (.long x) L = L2) (k : zx_X l rm M fl kc ks Z (pc + 2) L2 S h) : zx_X l rm M fl kc ks Z pc L (.long x :: S) h := fun D G α A p e s m args below meth c H locs ls C R hl => lv_lstore C.1 C.2.1 d hl hn rfl (fun ls2 h2 => k D G α A p e s m args below meth c H locs ls2 C R (zx_has_sub h2 (hL ▸ zx_set2_sub)))
theorem zx_iinc {i : Nat} {n : Int} {x v : Int32} {L2 : List (Nat × Value)} (d : decode M.2.1 pc = .ok (.iinc i n, 3)) (g : zx_get i L = some (.int x)) (hn : i < M.2.2.1) (hv : Int32.ofInt n = v) (hL : zx_set i (.int (x + v)) L = L2) (k : zx_X l rm M fl kc ks Z (pc + 3) L2 S h) : zx_X l rm M fl kc ks Z pc L S h := by
  intro D G α A p e s m args below meth c H locs ls C R hl
  obtain ⟨j, hj⟩ := List.getElem?_of_mem (List.mem_map.mpr ⟨(i, .int x), zx_get_mem g, rfl⟩ : (i, Value.int x) ∈ zx_lm α L)
  exact lv_iinc C.1 C.2.1 d hl hj (by rw [hv]) hn rfl (fun ls2 h2 => k D G α A p e s m args below meth c H locs ls2 C R (zx_has_sub h2 (hL ▸ zx_set_sub (v := .int (x + v)))))
theorem zx_icmp_eq {x y : Int32} {off : Int} {tgt : Nat} (d : decode M.2.1 pc = .ok (.if_icmp .eq off, 3)) (ht : (pc : Int) + off = (tgt : Int)) (kt : x = y → zx_X l rm M fl kc ks Z tgt L S h) (kf : ¬ x = y → zx_X l rm M fl kc ks Z (pc + 3) L S h) : zx_X l rm M fl kc ks Z pc L (.int y :: .int x :: S) h := fun D G α A p e s m args below meth c H locs ls C R hl => lv_icmp_eq C.1 C.2.1 d ht (fun q => kt q D G α A p e s m args below meth c H locs ls C R hl) (fun q => kf q D G α A p e s m args below meth c H locs ls C R hl)
theorem zx_icmp_ne {x y : Int32} {off : Int} {tgt : Nat} (d : decode M.2.1 pc = .ok (.if_icmp .ne off, 3)) (ht : (pc : Int) + off = (tgt : Int)) (kt : ¬ x = y → zx_X l rm M fl kc ks Z tgt L S h) (kf : x = y → zx_X l rm M fl kc ks Z (pc + 3) L S h) : zx_X l rm M fl kc ks Z pc L (.int y :: .int x :: S) h := fun D G α A p e s m args below meth c H locs ls C R hl => lv_icmp_ne C.1 C.2.1 d ht (fun q => kt q D G α A p e s m args below meth c H locs ls C R hl) (fun q => kf q D G α A p e s m args below meth c H locs ls C R hl)
theorem zx_icmp_lt {x y : Int32} {off : Int} {tgt : Nat} (d : decode M.2.1 pc = .ok (.if_icmp .lt off, 3)) (ht : (pc : Int) + off = (tgt : Int)) (kt : x < y → zx_X l rm M fl kc ks Z tgt L S h) (kf : ¬ x < y → zx_X l rm M fl kc ks Z (pc + 3) L S h) : zx_X l rm M fl kc ks Z pc L (.int y :: .int x :: S) h := fun D G α A p e s m args below meth c H locs ls C R hl => lv_icmp_lt C.1 C.2.1 d ht (fun q => kt q D G α A p e s m args below meth c H locs ls C R hl) (fun q => kf q D G α A p e s m args below meth c H locs ls C R hl)
theorem zx_icmp_ge {x y : Int32} {off : Int} {tgt : Nat} (d : decode M.2.1 pc = .ok (.if_icmp .ge off, 3)) (ht : (pc : Int) + off = (tgt : Int)) (kt : y ≤ x → zx_X l rm M fl kc ks Z tgt L S h) (kf : ¬ y ≤ x → zx_X l rm M fl kc ks Z (pc + 3) L S h) : zx_X l rm M fl kc ks Z pc L (.int y :: .int x :: S) h := fun D G α A p e s m args below meth c H locs ls C R hl => lv_icmp_ge C.1 C.2.1 d ht (fun q => kt q D G α A p e s m args below meth c H locs ls C R hl) (fun q => kf q D G α A p e s m args below meth c H locs ls C R hl)
theorem zx_icmp_gt {x y : Int32} {off : Int} {tgt : Nat} (d : decode M.2.1 pc = .ok (.if_icmp .gt off, 3)) (ht : (pc : Int) + off = (tgt : Int)) (kt : y < x → zx_X l rm M fl kc ks Z tgt L S h) (kf : ¬ y < x → zx_X l rm M fl kc ks Z (pc + 3) L S h) : zx_X l rm M fl kc ks Z pc L (.int y :: .int x :: S) h := fun D G α A p e s m args below meth c H locs ls C R hl => lv_icmp_gt C.1 C.2.1 d ht (fun q => kt q D G α A p e s m args below meth c H locs ls C R hl) (fun q => kf q D G α A p e s m args below meth c H locs ls C R hl)
theorem zx_icmp_le {x y : Int32} {off : Int} {tgt : Nat} (d : decode M.2.1 pc = .ok (.if_icmp .le off, 3)) (ht : (pc : Int) + off = (tgt : Int)) (kt : x ≤ y → zx_X l rm M fl kc ks Z tgt L S h) (kf : ¬ x ≤ y → zx_X l rm M fl kc ks Z (pc + 3) L S h) : zx_X l rm M fl kc ks Z pc L (.int y :: .int x :: S) h := fun D G α A p e s m args below meth c H locs ls C R hl => lv_icmp_le C.1 C.2.1 d ht (fun q => kt q D G α A p e s m args below meth c H locs ls C R hl) (fun q => kf q D G α A p e s m args below meth c H locs ls C R hl)
theorem zx_if_eq {x : Int32} {off : Int} {tgt : Nat} (d : decode M.2.1 pc = .ok (.ifCond .eq off, 3)) (ht : (pc : Int) + off = (tgt : Int)) (kt : x = 0 → zx_X l rm M fl kc ks Z tgt L S h) (kf : ¬ x = 0 → zx_X l rm M fl kc ks Z (pc + 3) L S h) : zx_X l rm M fl kc ks Z pc L (.int x :: S) h := fun D G α A p e s m args below meth c H locs ls C R hl => lv_if_eq C.1 C.2.1 d ht (fun q => kt q D G α A p e s m args below meth c H locs ls C R hl) (fun q => kf q D G α A p e s m args below meth c H locs ls C R hl)
theorem zx_if_ne {x : Int32} {off : Int} {tgt : Nat} (d : decode M.2.1 pc = .ok (.ifCond .ne off, 3)) (ht : (pc : Int) + off = (tgt : Int)) (kt : ¬ x = 0 → zx_X l rm M fl kc ks Z tgt L S h) (kf : x = 0 → zx_X l rm M fl kc ks Z (pc + 3) L S h) : zx_X l rm M fl kc ks Z pc L (.int x :: S) h := fun D G α A p e s m args below meth c H locs ls C R hl => lv_if_ne C.1 C.2.1 d ht (fun q => kt q D G α A p e s m args below meth c H locs ls C R hl) (fun q => kf q D G α A p e s m args below meth c H locs ls C R hl)
theorem zx_if_lt {x : Int32} {off : Int} {tgt : Nat} (d : decode M.2.1 pc = .ok (.ifCond .lt off, 3)) (ht : (pc : Int) + off = (tgt : Int)) (kt : x < 0 → zx_X l rm M fl kc ks Z tgt L S h) (kf : ¬ x < 0 → zx_X l rm M fl kc ks Z (pc + 3) L S h) : zx_X l rm M fl kc ks Z pc L (.int x :: S) h := fun D G α A p e s m args below meth c H locs ls C R hl => lv_if_lt C.1 C.2.1 d ht (fun q => kt q D G α A p e s m args below meth c H locs ls C R hl) (fun q => kf q D G α A p e s m args below meth c H locs ls C R hl)
theorem zx_if_ge {x : Int32} {off : Int} {tgt : Nat} (d : decode M.2.1 pc = .ok (.ifCond .ge off, 3)) (ht : (pc : Int) + off = (tgt : Int)) (kt : 0 ≤ x → zx_X l rm M fl kc ks Z tgt L S h) (kf : ¬ 0 ≤ x → zx_X l rm M fl kc ks Z (pc + 3) L S h) : zx_X l rm M fl kc ks Z pc L (.int x :: S) h := fun D G α A p e s m args below meth c H locs ls C R hl => lv_if_ge C.1 C.2.1 d ht (fun q => kt q D G α A p e s m args below meth c H locs ls C R hl) (fun q => kf q D G α A p e s m args below meth c H locs ls C R hl)
theorem zx_if_gt {x : Int32} {off : Int} {tgt : Nat} (d : decode M.2.1 pc = .ok (.ifCond .gt off, 3)) (ht : (pc : Int) + off = (tgt : Int)) (kt : 0 < x → zx_X l rm M fl kc ks Z tgt L S h) (kf : ¬ 0 < x → zx_X l rm M fl kc ks Z (pc + 3) L S h) : zx_X l rm M fl kc ks Z pc L (.int x :: S) h := fun D G α A p e s m args below meth c H locs ls C R hl => lv_if_gt C.1 C.2.1 d ht (fun q => kt q D G α A p e s m args below meth c H locs ls C R hl) (fun q => kf q D G α A p e s m args below meth c H locs ls C R hl)
theorem zx_if_le {x : Int32} {off : Int} {tgt : Nat} (d : decode M.2.1 pc = .ok (.ifCond .le off, 3)) (ht : (pc : Int) + off = (tgt : Int)) (kt : x ≤ 0 → zx_X l rm M fl kc ks Z tgt L S h) (kf : ¬ x ≤ 0 → zx_X l rm M fl kc ks Z (pc + 3) L S h) : zx_X l rm M fl kc ks Z pc L (.int x :: S) h := fun D G α A p e s m args below meth c H locs ls C R hl => lv_if_le C.1 C.2.1 d ht (fun q => kt q D G α A p e s m args below meth c H locs ls C R hl) (fun q => kf q D G α A p e s m args below meth c H locs ls C R hl)
theorem zx_goto {off : Int} {tgt : Nat} (d : decode M.2.1 pc = .ok (.goto off, 3)) (ht : (pc : Int) + off = (tgt : Int)) (k : zx_X l rm M fl kc ks Z tgt L S h) : zx_X l rm M fl kc ks Z pc L S h := fun D G α A p e s m args below meth c H locs ls C R hl => lv_goto C.1 C.2.1 d ht (k D G α A p e s m args below meth c H locs ls C R hl)
theorem zx_tableOut {dflt lo hi : Int} {offs : Array Int} {len : Nat} {x : Int32} {tgt : Nat} (d : decode M.2.1 pc = .ok (.tableswitch dflt lo hi offs, len)) (hq : x.toInt < lo ∨ hi < x.toInt) (ht : (pc : Int) + dflt = (tgt : Int)) (k : zx_X l rm M fl kc ks Z tgt L S h) : zx_X l rm M fl kc ks Z pc L (.int x :: S) h := fun D G α A p e s m args below meth c H locs ls C R hl => lv_tableOut C.1 C.2.1 d hq ht (k D G α A p e s m args below meth c H locs ls C R hl)
theorem zx_tableIn {dflt lo hi : Int} {offs : Array Int} {len : Nat} {x : Int32} {off : Int} {tgt : Nat} (d : decode M.2.1 pc = .ok (.tableswitch dflt lo hi offs, len)) (h1 : ¬ x.toInt < lo) (h2 : ¬ hi < x.toInt) (ho : offs[(x.toInt - lo).toNat]? = some off) (ht : (pc : Int) + off = (tgt : Int)) (k : zx_X l rm M fl kc ks Z tgt L S h) : zx_X l rm M fl kc ks Z pc L (.int x :: S) h := fun D G α A p e s m args below meth c H locs ls C R hl => lv_tableIn C.1 C.2.1 d h1 h2 ho ht (k D G α A p e s m args below meth c H locs ls C R hl)
theorem zx_ldc {idx : Nat} {v : Int32} (w : Cond.constant M.1.cls idx v ∈ zx_T) (d : decode M.2.1 pc = .ok (.ldc idx, 2)) (k : zx_X l rm M fl kc ks Z (pc + 2) L (.int v :: S) h) : zx_X l rm M fl kc ks Z pc L S h := fun D G α A p e s m args below meth c H locs ls C R hl => lv_ldc C.1 C.2.1 C.2.2.2.2.2.1 (C.2.2.2.2.2.2.1 _ w) d (k D G α A p e s m args below meth c H locs ls C R hl)
theorem zx_ldc2 {idx : Nat} {v : Int64} (w : Cond.constantLong M.1.cls idx v ∈ zx_T) (d : decode M.2.1 pc = .ok (.ldc2_w idx, 3)) (k : zx_X l rm M fl kc ks Z (pc + 3) L (.long v :: S) h) : zx_X l rm M fl kc ks Z pc L S h := fun D G α A p e s m args below meth c H locs ls C R hl => lv_ldc2 C.1 C.2.1 C.2.2.2.2.2.1 (C.2.2.2.2.2.2.1 _ w) d (k D G α A p e s m args below meth c H locs ls C R hl)
theorem zx_loc {L2 : List (Nat × Value)} (hs : ∀ q ∈ L2, q ∈ L) (k : zx_X l rm M fl kc ks Z pc L2 S h) : zx_X l rm M fl kc ks Z pc L S h := fun D G α A p e s m args below meth c H locs ls C R hl => k D G α A p e s m args below meth c H locs ls C R (zx_has_sub hl (fun q hq => by obtain ⟨a, ha, rfl⟩ := List.mem_map.mp hq; exact List.mem_map.mpr ⟨a, hs a ha, rfl⟩))
theorem zx_eq {pc2 : Nat} {L2 : List (Nat × Value)} {S2 : List Value} {h2 : zx_H} (h1 : pc2 = pc) (e2 : L2 = L) (e3 : S2 = S) (e4 : h2 = h) (k : zx_X l rm M fl kc ks Z pc2 L2 S2 h2) : zx_X l rm M fl kc ks Z pc L S h := by subst h1; subst e2; subst e3; subst e4; exact k
theorem zx_locs {L2 : List (Nat × Value)} (ks2 : List Nat) (hs : ks2.filterMap (fun i => L[i]?) = L2) (k : zx_X l rm M fl kc ks Z pc L2 S h) : zx_X l rm M fl kc ks Z pc L S h := zx_loc (fun q hq => by subst hs; obtain ⟨i, -, hi⟩ := List.mem_filterMap.mp hq; exact List.mem_of_getElem? hi) k
end ZX
theorem zx_fs_at {ft : List Bool} {α : Nat → Nat} {I : Nat → Int32} {R : Nat → Nat} {j : Nat} (hj : j < ft.length) : (zx_fs ft α I R)[j]? = some (if ft.getD j false = true then zx_nul α (R j) else .int (I j)) := by
  unfold zx_fs
  rw [List.getElem?_map, List.getElem?_range hj]
  rfl
theorem zx_fs_len {ft : List Bool} {α : Nat → Nat} {I : Nat → Int32} {R : Nat → Nat} : (zx_fs ft α I R).length = ft.length := by simp [zx_fs]
theorem zx_fs_set {ft : List Bool} {α : Nat → Nat} {I I' : Nat → Int32} {R R' : Nat → Nat} {j : Nat} {v : Value} (hj : j < ft.length) (hv : v = (if ft.getD j false = true then zx_nul α (R' j) else .int (I' j))) (hI : ∀ i, i ≠ j → I' i = I i) (hR : ∀ i, i ≠ j → R' i = R i) : (zx_fs ft α I R).set j v = zx_fs ft α I' R' := by
  apply List.ext_getElem?
  intro i
  by_cases hi : i = j
  · subst hi
    rw [List.getElem?_set_self (by rw [zx_fs_len]; exact hj), zx_fs_at hj, hv]
  · rw [List.getElem?_set_ne (fun q => hi q.symm)]
    by_cases hl : i < ft.length
    · rw [zx_fs_at hl, zx_fs_at hl, hI i hi, hR i hi]
    · rw [List.getElem?_eq_none (by rw [zx_fs_len]; omega), List.getElem?_eq_none (by rw [zx_fs_len]; omega)]
theorem zx_enc_obj {G : zx_G} {α : Nat → Nat} {h : zx_H} {o ci : Nat} (kd : (h.1.2 o).1 = ci + 5) : zx_enc G α h o = .inr (ci, zx_fs (zx_ft ci) α (h.2.1 o) (h.2.2.1 o)) := by
  unfold zx_enc
  rw [kd]
theorem zx_enc_int {G : zx_G} {α : Nat → Nat} {h : zx_H} {o n : Nat} (kd : h.1.2 o = (0, n)) : zx_enc G α h o = .inl (G.1, n, .inl (h.2.1 o)) := by
  unfold zx_enc
  rw [kd]
theorem zx_enc_bool {G : zx_G} {α : Nat → Nat} {h : zx_H} {o n : Nat} (kd : h.1.2 o = (1, n)) : zx_enc G α h o = .inl (G.2.1, n, .inl (h.2.1 o)) := by
  unfold zx_enc
  rw [kd]
theorem zx_enc_long {G : zx_G} {α : Nat → Nat} {h : zx_H} {o n : Nat} (kd : h.1.2 o = (2, n)) : zx_enc G α h o = .inl (G.2.2.1, n, .inr (.inl (h.2.2.2 o))) := by
  unfold zx_enc
  rw [kd]
theorem zx_enc_q3 {G : zx_G} {α : Nat → Nat} {h : zx_H} {o n : Nat} (kd : h.1.2 o = (3, n)) : zx_enc G α h o = .inl (G.2.2.2.1, n, .inr (.inr (.inr (.inr (fun j => zx_opt α (h.2.2.1 o j)))))) := by
  unfold zx_enc
  rw [kd]
theorem zx_enc_q4 {G : zx_G} {α : Nat → Nat} {h : zx_H} {o n : Nat} (kd : h.1.2 o = (4, n)) : zx_enc G α h o = .inl (G.2.2.2.2, n, .inr (.inr (.inr (.inr (fun j => zx_opt α (h.2.2.1 o j)))))) := by
  unfold zx_enc
  rw [kd]
/-- a field of a class by its number in the pool of the class that uses it -/
def zx_fld (own : String) (idx ci j : Nat) (isR fin : Bool) : Prop := ∃ (C : String) (T : u_T) (N : Nat) (ty : Nat → FieldType),
  zx_cl[ci]? = some (C, T, N) ∧ j < N ∧ (∀ w ∈ u_ws C T N, w ∈ zx_T) ∧ (∀ k, k < N → parseFieldDescriptor (T k).2.2.1 = some (ty k)) ∧ (∀ a, a < N → ∀ b, b < N → a ≠ b → (T a).2.1 ≠ (T b).2.1) ∧ (zx_ft ci).length = N ∧ (zx_ft ci).getD j false = isR ∧ (T j).2.2.2 = fin ∧
  (isR = false → ty j = .int) ∧ (isR = true → (ty j).isReference = true) ∧ (fin = true → (T j).1 = own) ∧ (T j).1 = C ∧
  (Cond.fieldLink own idx C (T j).2.1 (T j).2.2.1 ∈ zx_T ∨ ∃ host, Cond.fieldLinkNest own idx C (T j).2.1 (T j).2.2.1 host ∈ zx_T)
theorem zx_fits_ref {ty : FieldType} (h : ty.isReference = true) (a : Nat) : narrow ty (.ref a) = .ref a ∧ fits ty (.ref a) = true := by
  cases ty <;> first | exact ⟨rfl, rfl⟩ | cases h
section ZY
variable {l : Launch} {rm : Room} {M : zx_M} {fl : Bool} {kc ks : Nat} {Z : zx_Zt} {pc : Nat} {L : List (Nat × Value)} {S : List Value} {h : zx_H}
theorem zx_getI {o ci j idx : Nat} {fin : Bool} (f : zx_fld M.1.cls idx ci j false fin) (kd : (h.1.2 o).1 = ci + 5) (hci : ci < 90) (d : decode M.2.1 pc = .ok (.getfield idx, 3)) (k : zx_X l rm M fl kc ks Z (pc + 3) L (.int (h.2.1 o j) :: S) h) : zx_X l rm M fl kc ks Z pc L (.ref o :: S) h := by
  intro D G α A p e s m args below meth c H locs ls C R hl
  obtain ⟨Cn, T, N, ty, hc, hj, hin, hty, hnm, hlen, hR, hfin, hi, hr, hf, hC, hlink⟩ := f
  have hk := k D G α A p e s m args below meth c H locs ls C R hl
  obtain ⟨hK, hA, hP, hD, hS, hok, hfr⟩ := R
  obtain ⟨o1, o2, -⟩ := hok o (by omega)
  have he : (zx_wl G α h)[o - 1]? = some (α o, .inr (ci, zx_fs (zx_ft ci) α (h.2.1 o) (h.2.2.1 o))) := by rw [zx_wl_at o1 o2, zx_enc_obj kd]
  have hv : (zx_fs (zx_ft ci) α (h.2.1 o) (h.2.2.1 o))[j]? = some (.int (h.2.1 o j)) := by
    rw [zx_fs_at (by omega), hR]
    rfl
  rcases hlink with hw | ⟨host, hw⟩
  · exact va_get C.1 C.2.1 C.2.2.2.2.2.2.1 hin C.2.2.2.2.2.1 hK hP (o - 1) he hc j hj (C.2.2.2.2.2.2.1 _ hw) (fun x9 h9 => hC ▸ h9) hv d hk
  · exact va_getN C.1 C.2.1 C.2.2.2.2.2.2.1 hin C.2.2.2.2.2.1 hK hP (o - 1) he hc j hj (C.2.2.2.2.2.2.1 _ hw) (fun x9 h9 => hC ▸ h9) hv d hk
theorem zx_getR {o ci j idx : Nat} {fin : Bool} (f : zx_fld M.1.cls idx ci j true fin) (kd : (h.1.2 o).1 = ci + 5) (hci : ci < 90) (nz : h.2.2.1 o j ≠ 0) (d : decode M.2.1 pc = .ok (.getfield idx, 3)) (k : zx_X l rm M fl kc ks Z (pc + 3) L (.ref (h.2.2.1 o j) :: S) h) : zx_X l rm M fl kc ks Z pc L (.ref o :: S) h := by
  intro D G α A p e s m args below meth c H locs ls C R hl
  obtain ⟨Cn, T, N, ty, hc, hj, hin, hty, hnm, hlen, hR, hfin, hi, hr, hf, hC, hlink⟩ := f
  have hk := k D G α A p e s m args below meth c H locs ls C R hl
  obtain ⟨hK, hA, hP, hD, hS, hok, hfr⟩ := R
  obtain ⟨o1, o2, -⟩ := hok o (by omega)
  have he : (zx_wl G α h)[o - 1]? = some (α o, .inr (ci, zx_fs (zx_ft ci) α (h.2.1 o) (h.2.2.1 o))) := by rw [zx_wl_at o1 o2, zx_enc_obj kd]
  have hv : (zx_fs (zx_ft ci) α (h.2.1 o) (h.2.2.1 o))[j]? = some (.ref (α (h.2.2.1 o j))) := by
    rw [zx_fs_at (by omega), hR]
    simp [zx_nul, nz]
  rcases hlink with hw | ⟨host, hw⟩
  · exact va_get C.1 C.2.1 C.2.2.2.2.2.2.1 hin C.2.2.2.2.2.1 hK hP (o - 1) he hc j hj (C.2.2.2.2.2.2.1 _ hw) (fun x9 h9 => hC ▸ h9) hv d hk
  · exact va_getN C.1 C.2.1 C.2.2.2.2.2.2.1 hin C.2.2.2.2.2.1 hK hP (o - 1) he hc j hj (C.2.2.2.2.2.2.1 _ hw) (fun x9 h9 => hC ▸ h9) hv d hk
theorem zx_putI {o ci j idx : Nat} {v : Int32} (f : zx_fld M.1.cls idx ci j false false) (kd : (h.1.2 o).1 = ci + 5) (hci : ci < 90) (d : decode M.2.1 pc = .ok (.putfield idx, 3)) (k : zx_X l rm M fl kc ks Z (pc + 3) L S (zx_upI h o j v)) : zx_X l rm M fl kc ks Z pc L (.int v :: .ref o :: S) h := by
  intro D G α A p e s m args below meth c H locs ls C R hl
  obtain ⟨Cn, T, N, ty, hc, hj, hin, hty, hnm, hlen, hR, hfin, hi, hr, hf, hC, hlink⟩ := f
  obtain ⟨hK, hA, hP, hD, hS, hok, hfr⟩ := R
  obtain ⟨o1, o2, -⟩ := hok o (by omega)
  have he : (zx_wl G α h)[o - 1]? = some (α o, .inr (ci, zx_fs (zx_ft ci) α (h.2.1 o) (h.2.2.1 o))) := by rw [zx_wl_at o1 o2, zx_enc_obj kd]
  have hset : (zx_wl G α h).set (o - 1) (α o, .inr (ci, (zx_fs (zx_ft ci) α (h.2.1 o) (h.2.2.1 o)).set j (.int v))) = zx_wl G α (zx_upI h o j v) := by
    rw [zx_fs_set (ft := zx_ft ci) (α := α) (I := h.2.1 o) (R := h.2.2.1 o) (j := j) (v := .int v) (I' := (zx_upI h o j v).2.1 o) (R' := (zx_upI h o j v).2.2.1 o) (by omega) (by rw [hR]; simp [zx_upI, zx_u2]) (fun i hi => by simp [zx_upI, zx_u2, hi]) (fun i hi => rfl), ← zx_enc_obj (G := G) (h := zx_upI h o j v) kd]
    exact zx_wl_set rfl (fun q hq => zx_u2_off hq) (fun _ _ => rfl) (fun _ _ => rfl) o1 o2
  have hp : parseFieldDescriptor (T j).2.2.1 = some .int := by rw [hty j hj, hi rfl]
  rcases hlink with hw | ⟨host, hw⟩
  · refine va_put (v := .int v) C.1 C.2.1 C.2.2.2.2.2.2.1 hin ty hty hnm C.2.2.2.2.2.1 hK hP hD hS (o - 1) he hc j hj (C.2.2.2.2.2.2.1 _ hw) (fun x9 h9 => hC ▸ h9) hfin hp rfl rfl (by rw [zx_fs_len]; omega) d (fun H1 locs1 hP1 hD1 hS1 => ?_)
    rw [hset] at hP1 hD1
    exact k D G α A p e s m args below meth c H1 locs1 ls C ⟨hK, hA, hP1, hD1, hS1, hok, hfr⟩ hl
  · refine va_putN (v := .int v) C.1 C.2.1 C.2.2.2.2.2.2.1 hin ty hty hnm C.2.2.2.2.2.1 hK hP hD hS (o - 1) he hc j hj (C.2.2.2.2.2.2.1 _ hw) (fun x9 h9 => hC ▸ h9) hfin hp rfl rfl (by rw [zx_fs_len]; omega) d (fun H1 locs1 hP1 hD1 hS1 => ?_)
    rw [hset] at hP1 hD1
    exact k D G α A p e s m args below meth c H1 locs1 ls C ⟨hK, hA, hP1, hD1, hS1, hok, hfr⟩ hl
theorem zx_putR {o ci j idx v : Nat} (f : zx_fld M.1.cls idx ci j true false) (kd : (h.1.2 o).1 = ci + 5) (hci : ci < 90) (nz : v ≠ 0) (d : decode M.2.1 pc = .ok (.putfield idx, 3)) (k : zx_X l rm M fl kc ks Z (pc + 3) L S (zx_upR h o j v)) : zx_X l rm M fl kc ks Z pc L (.ref v :: .ref o :: S) h := by
  intro D G α A p e s m args below meth c H locs ls C R hl
  obtain ⟨Cn, T, N, ty, hc, hj, hin, hty, hnm, hlen, hR, hfin, hi, hr, hf, hC, hlink⟩ := f
  obtain ⟨hK, hA, hP, hD, hS, hok, hfr⟩ := R
  obtain ⟨o1, o2, -⟩ := hok o (by omega)
  have he : (zx_wl G α h)[o - 1]? = some (α o, .inr (ci, zx_fs (zx_ft ci) α (h.2.1 o) (h.2.2.1 o))) := by rw [zx_wl_at o1 o2, zx_enc_obj kd]
  have hset : (zx_wl G α h).set (o - 1) (α o, .inr (ci, (zx_fs (zx_ft ci) α (h.2.1 o) (h.2.2.1 o)).set j (.ref (α v)))) = zx_wl G α (zx_upR h o j v) := by
    rw [zx_fs_set (ft := zx_ft ci) (α := α) (I := h.2.1 o) (R := h.2.2.1 o) (j := j) (v := .ref (α v)) (I' := (zx_upR h o j v).2.1 o) (R' := (zx_upR h o j v).2.2.1 o) (by omega) (by rw [hR]; simp [zx_upR, zx_u2, zx_nul, nz]) (fun i hi => rfl) (fun i hi => by simp [zx_upR, zx_u2, hi]), ← zx_enc_obj (G := G) (h := zx_upR h o j v) kd]
    exact zx_wl_set rfl (fun _ _ => rfl) (fun q hq => zx_u2_off hq) (fun _ _ => rfl) o1 o2
  have hq := zx_fits_ref (hr rfl) (α v)
  rcases hlink with hw | ⟨host, hw⟩
  · refine va_put (v := .ref (α v)) C.1 C.2.1 C.2.2.2.2.2.2.1 hin ty hty hnm C.2.2.2.2.2.1 hK hP hD hS (o - 1) he hc j hj (C.2.2.2.2.2.2.1 _ hw) (fun x9 h9 => hC ▸ h9) hfin (hty j hj) hq.1 hq.2 (by rw [zx_fs_len]; omega) d (fun H1 locs1 hP1 hD1 hS1 => ?_)
    rw [hset] at hP1 hD1
    exact k D G α A p e s m args below meth c H1 locs1 ls C ⟨hK, hA, hP1, hD1, hS1, hok, hfr⟩ hl
  · refine va_putN (v := .ref (α v)) C.1 C.2.1 C.2.2.2.2.2.2.1 hin ty hty hnm C.2.2.2.2.2.1 hK hP hD hS (o - 1) he hc j hj (C.2.2.2.2.2.2.1 _ hw) (fun x9 h9 => hC ▸ h9) hfin (hty j hj) hq.1 hq.2 (by rw [zx_fs_len]; omega) d (fun H1 locs1 hP1 hD1 hS1 => ?_)
    rw [hset] at hP1 hD1
    exact k D G α A p e s m args below meth c H1 locs1 ls C ⟨hK, hA, hP1, hD1, hS1, hok, hfr⟩ hl
/-- a final field, in its own class's constructor -/
theorem zx_putF {o ci j idx v : Nat} (f : zx_fld M.1.cls idx ci j true true) (kd : (h.1.2 o).1 = ci + 5) (hci : ci < 90) (nz : v ≠ 0) (hin0 : M.1.name = "<init>") (hw : ∀ (T : u_T) (C : String) (N : Nat), zx_cl[ci]? = some (C, T, N) → Cond.fieldLink M.1.cls idx C (T j).2.1 (T j).2.2.1 ∈ zx_T) (d : decode M.2.1 pc = .ok (.putfield idx, 3)) (k : zx_X l rm M fl kc ks Z (pc + 3) L S (zx_upR h o j v)) : zx_X l rm M fl kc ks Z pc L (.ref v :: .ref o :: S) h := by
  intro D G α A p e s m args below meth c H locs ls C R hl
  obtain ⟨Cn, T, N, ty, hc, hj, hin, hty, hnm, hlen, hR, hfin, hi, hr, hf, hC, hlink⟩ := f
  obtain ⟨hK, hA, hP, hD, hS, hok, hfr⟩ := R
  obtain ⟨o1, o2, -⟩ := hok o (by omega)
  have he : (zx_wl G α h)[o - 1]? = some (α o, .inr (ci, zx_fs (zx_ft ci) α (h.2.1 o) (h.2.2.1 o))) := by rw [zx_wl_at o1 o2, zx_enc_obj kd]
  have hset : (zx_wl G α h).set (o - 1) (α o, .inr (ci, (zx_fs (zx_ft ci) α (h.2.1 o) (h.2.2.1 o)).set j (.ref (α v)))) = zx_wl G α (zx_upR h o j v) := by
    rw [zx_fs_set (ft := zx_ft ci) (α := α) (I := h.2.1 o) (R := h.2.2.1 o) (j := j) (v := .ref (α v)) (I' := (zx_upR h o j v).2.1 o) (R' := (zx_upR h o j v).2.2.1 o) (by omega) (by rw [hR]; simp [zx_upR, zx_u2, zx_nul, nz]) (fun i hi => rfl) (fun i hi => by simp [zx_upR, zx_u2, hi]), ← zx_enc_obj (G := G) (h := zx_upR h o j v) kd]
    exact zx_wl_set rfl (fun _ _ => rfl) (fun q hq => zx_u2_off hq) (fun _ _ => rfl) o1 o2
  have hq := zx_fits_ref (hr rfl) (α v)
  refine va_putF (v := .ref (α v)) C.1 C.2.1 C.2.2.2.2.2.2.1 hin ty hty hnm C.2.2.2.2.2.1 hK hP hD hS (o - 1) he hc j hj (C.2.2.2.2.2.2.1 _ (hw T Cn N hc)) (fun x9 h9 => hC ▸ h9) hfin (C.2.2.2.2.2.2.2 hin0) (hf rfl) (hty j hj) hq.1 hq.2 (by rw [zx_fs_len]; omega) d (fun H1 locs1 hP1 hD1 hS1 => ?_)
  rw [hset] at hP1 hD1
  exact k D G α A p e s m args below meth c H1 locs1 ls C ⟨hK, hA, hP1, hD1, hS1, hok, hfr⟩ hl
theorem zx_iald {q n : Nat} {x : Int32} (j : Nat) (kd : h.1.2 q = (0, n)) (hx : x = nI j) (hj : j < n) (d : decode M.2.1 pc = .ok (.iaload, 1)) (k : zx_X l rm M fl kc ks Z (pc + 1) L (.int (h.2.1 q j) :: S) h) : zx_X l rm M fl kc ks Z pc L (.int x :: .ref q :: S) h := by
  intro D G α A p e s m args below meth c H locs ls C R hl
  have hk := k D G α A p e s m args below meth c H locs ls C R hl
  obtain ⟨hK, hA, hP, hD, hS, hok, hfr⟩ := R
  obtain ⟨o1, o2, o3⟩ := hok q (by rw [kd]; omega)
  rw [kd] at o3
  have he : (zx_wl G α h)[q - 1]? = some (α q, .inl (G.1, n, .inl (h.2.1 q))) := by rw [zx_wl_at o1 o2, zx_enc_int kd]
  subst hx
  refine va_iald C.1 C.2.1 hK hP (q - 1) 0 he rfl (vp_in_nI hj o3) d ?_
  rw [nI_clamp (by omega)]
  exact hk
theorem zx_zald {q n : Nat} {x : Int32} (j : Nat) (kd : h.1.2 q = (1, n)) (hx : x = nI j) (hj : j < n) (d : decode M.2.1 pc = .ok (.baload, 1)) (k : zx_X l rm M fl kc ks Z (pc + 1) L (.int (h.2.1 q j) :: S) h) : zx_X l rm M fl kc ks Z pc L (.int x :: .ref q :: S) h := by
  intro D G α A p e s m args below meth c H locs ls C R hl
  have hk := k D G α A p e s m args below meth c H locs ls C R hl
  obtain ⟨hK, hA, hP, hD, hS, hok, hfr⟩ := R
  obtain ⟨o1, o2, o3⟩ := hok q (by rw [kd]; omega)
  rw [kd] at o3
  have he : (zx_wl G α h)[q - 1]? = some (α q, .inl (G.2.1, n, .inl (h.2.1 q))) := by rw [zx_wl_at o1 o2, zx_enc_bool kd]
  subst hx
  refine va_zald C.1 C.2.1 hK hP (q - 1) 1 he rfl (vp_in_nI hj o3) d ?_
  rw [nI_clamp (by omega)]
  exact hk
theorem zx_lald {q n : Nat} {x : Int32} (j : Nat) (kd : h.1.2 q = (2, n)) (hx : x = nI j) (hj : j < n) (d : decode M.2.1 pc = .ok (.laload, 1)) (k : zx_X l rm M fl kc ks Z (pc + 1) L (.long (h.2.2.2 q j) :: S) h) : zx_X l rm M fl kc ks Z pc L (.int x :: .ref q :: S) h := by
  intro D G α A p e s m args below meth c H locs ls C R hl
  have hk := k D G α A p e s m args below meth c H locs ls C R hl
  obtain ⟨hK, hA, hP, hD, hS, hok, hfr⟩ := R
  obtain ⟨o1, o2, o3⟩ := hok q (by rw [kd]; omega)
  rw [kd] at o3
  have he : (zx_wl G α h)[q - 1]? = some (α q, .inl (G.2.2.1, n, .inr (.inl (h.2.2.2 q)))) := by rw [zx_wl_at o1 o2, zx_enc_long kd]
  subst hx
  refine va_lald C.1 C.2.1 hK hP (q - 1) 2 he rfl (vp_in_nI hj o3) d ?_
  rw [nI_clamp (by omega)]
  exact hk
theorem zx_iast {q n : Nat} {x v : Int32} (j : Nat) (kd : h.1.2 q = (0, n)) (hx : x = nI j) (hj : j < n) (d : decode M.2.1 pc = .ok (.iastore, 1)) (k : zx_X l rm M fl kc ks Z (pc + 1) L S (zx_upI h q j v)) : zx_X l rm M fl kc ks Z pc L (.int v :: .int x :: .ref q :: S) h := by
  intro D G α A p e s m args below meth c H locs ls C R hl
  obtain ⟨hK, hA, hP, hD, hS, hok, hfr⟩ := R
  obtain ⟨o1, o2, o3⟩ := hok q (by rw [kd]; omega)
  rw [kd] at o3
  have he : (zx_wl G α h)[q - 1]? = some (α q, .inl (G.1, n, .inl (h.2.1 q))) := by rw [zx_wl_at o1 o2, zx_enc_int kd]
  subst hx
  refine va_iast C.1 C.2.1 hK hP hD hS (q - 1) 0 he rfl (vp_in_nI hj o3) d (fun H1 locs1 hP1 hD1 hS1 => ?_)
  have hset : (zx_wl G α h).set (q - 1) (α q, .inl (G.1, n, .inl (upd (h.2.1 q) (nI j).toNatClampNeg v))) = zx_wl G α (zx_upI h q j v) := by
    rw [nI_clamp (by omega), ← zx_u2_on]
    rw [show (.inl (G.1, n, .inl (zx_u2 h.2.1 q j v q)) : va_E) = zx_enc G α (zx_upI h q j v) q from (zx_enc_int (h := zx_upI h q j v) kd).symm]
    exact zx_wl_set rfl (fun q hq => zx_u2_off hq) (fun _ _ => rfl) (fun _ _ => rfl) o1 o2
  rw [hset] at hP1 hD1
  exact k D G α A p e s m args below meth c H1 locs1 ls C ⟨hK, hA, hP1, hD1, hS1, hok, hfr⟩ hl
theorem zx_zast {q n : Nat} {x v : Int32} (j : Nat) (kd : h.1.2 q = (1, n)) (hx : x = nI j) (hj : j < n) (hv : vp_nar .boolean v = v) (d : decode M.2.1 pc = .ok (.bastore, 1)) (k : zx_X l rm M fl kc ks Z (pc + 1) L S (zx_upI h q j v)) : zx_X l rm M fl kc ks Z pc L (.int v :: .int x :: .ref q :: S) h := by
  intro D G α A p e s m args below meth c H locs ls C R hl
  obtain ⟨hK, hA, hP, hD, hS, hok, hfr⟩ := R
  obtain ⟨o1, o2, o3⟩ := hok q (by rw [kd]; omega)
  rw [kd] at o3
  have he : (zx_wl G α h)[q - 1]? = some (α q, .inl (G.2.1, n, .inl (h.2.1 q))) := by rw [zx_wl_at o1 o2, zx_enc_bool kd]
  subst hx
  refine va_zast C.1 C.2.1 hK hP hD hS (q - 1) 1 he rfl (vp_in_nI hj o3) d (fun H1 locs1 hP1 hD1 hS1 => ?_)
  have hset : (zx_wl G α h).set (q - 1) (α q, .inl (G.2.1, n, .inl (upd (h.2.1 q) (nI j).toNatClampNeg (vp_nar .boolean v)))) = zx_wl G α (zx_upI h q j v) := by
    rw [hv, nI_clamp (by omega), ← zx_u2_on]
    rw [show (.inl (G.2.1, n, .inl (zx_u2 h.2.1 q j v q)) : va_E) = zx_enc G α (zx_upI h q j v) q from (zx_enc_bool (h := zx_upI h q j v) kd).symm]
    exact zx_wl_set rfl (fun q hq => zx_u2_off hq) (fun _ _ => rfl) (fun _ _ => rfl) o1 o2
  rw [hset] at hP1 hD1
  exact k D G α A p e s m args below meth c H1 locs1 ls C ⟨hK, hA, hP1, hD1, hS1, hok, hfr⟩ hl
theorem zx_last {q n : Nat} {x : Int32} {v : Int64} (j : Nat) (kd : h.1.2 q = (2, n)) (hx : x = nI j) (hj : j < n) (d : decode M.2.1 pc = .ok (.lastore, 1)) (k : zx_X l rm M fl kc ks Z (pc + 1) L S (zx_upJ h q j v)) : zx_X l rm M fl kc ks Z pc L (.long v :: .int x :: .ref q :: S) h := by
  intro D G α A p e s m args below meth c H locs ls C R hl
  obtain ⟨hK, hA, hP, hD, hS, hok, hfr⟩ := R
  obtain ⟨o1, o2, o3⟩ := hok q (by rw [kd]; omega)
  rw [kd] at o3
  have he : (zx_wl G α h)[q - 1]? = some (α q, .inl (G.2.2.1, n, .inr (.inl (h.2.2.2 q)))) := by rw [zx_wl_at o1 o2, zx_enc_long kd]
  subst hx
  refine va_last C.1 C.2.1 hK hP hD hS (q - 1) 2 he rfl (vp_in_nI hj o3) d (fun H1 locs1 hP1 hD1 hS1 => ?_)
  have hset : (zx_wl G α h).set (q - 1) (α q, .inl (G.2.2.1, n, .inr (.inl (vp_updL (h.2.2.2 q) (nI j).toNatClampNeg v)))) = zx_wl G α (zx_upJ h q j v) := by
    rw [nI_clamp (by omega), ← zx_u2_onL]
    rw [show (.inl (G.2.2.1, n, .inr (.inl (zx_u2 h.2.2.2 q j v q))) : va_E) = zx_enc G α (zx_upJ h q j v) q from (zx_enc_long (h := zx_upJ h q j v) kd).symm]
    exact zx_wl_set rfl (fun _ _ => rfl) (fun _ _ => rfl) (fun q hq => zx_u2_off hq) o1 o2
  rw [hset] at hP1 hD1
  exact k D G α A p e s m args below meth c H1 locs1 ls C ⟨hK, hA, hP1, hD1, hS1, hok, hfr⟩ hl
theorem zx_alen {q n : Nat} (kd : h.1.2 q = (0, n)) (d : decode M.2.1 pc = .ok (.arraylength, 1)) (k : zx_X l rm M fl kc ks Z (pc + 1) L (.int (nI n) :: S) h) : zx_X l rm M fl kc ks Z pc L (.ref q :: S) h := by
  intro D G α A p e s m args below meth c H locs ls C R hl
  have hk := k D G α A p e s m args below meth c H locs ls C R hl
  obtain ⟨hK, hA, hP, hD, hS, hok, hfr⟩ := R
  obtain ⟨o1, o2, o3⟩ := hok q (by rw [kd]; omega)
  have he : (zx_wl G α h)[q - 1]? = some (α q, .inl (G.1, n, .inl (h.2.1 q))) := by rw [zx_wl_at o1 o2, zx_enc_int kd]
  exact va_alen C.1 C.2.1 hK hP (q - 1) 0 he (ty := .int) rfl rfl d hk
theorem zx_aald3 {q n : Nat} {x : Int32} (j : Nat) (kd : h.1.2 q = (3, n)) (hx : x = nI j) (hj : j < n) (nz : h.2.2.1 q j ≠ 0) (d : decode M.2.1 pc = .ok (.aaload, 1)) (k : zx_X l rm M fl kc ks Z (pc + 1) L (.ref (h.2.2.1 q j) :: S) h) : zx_X l rm M fl kc ks Z pc L (.int x :: .ref q :: S) h := by
  intro D G α A p e s m args below meth c H locs ls C R hl
  have hk := k D G α A p e s m args below meth c H locs ls C R hl
  obtain ⟨hK, hA, hP, hD, hS, hok, hfr⟩ := R
  obtain ⟨o1, o2, o3⟩ := hok q (by rw [kd]; omega)
  rw [kd] at o3
  have he : (zx_wl G α h)[q - 1]? = some (α q, .inl (G.2.2.2.1, n, .inr (.inr (.inr (.inr (fun j => zx_opt α (h.2.2.1 q j))))))) := by rw [zx_wl_at o1 o2, zx_enc_q3 kd]
  subst hx
  refine va_aldq C.1 C.2.1 hK hP (q - 1) 3 he rfl (vp_in_nI hj o3) d ?_
  rw [nI_clamp (by omega), show va_rf (zx_opt α (h.2.2.1 q j)) = .ref (α (h.2.2.1 q j)) by simp [zx_opt, nz, va_rf]]
  exact hk
theorem zx_aald4 {q n : Nat} {x : Int32} (j : Nat) (kd : h.1.2 q = (4, n)) (hx : x = nI j) (hj : j < n) (nz : h.2.2.1 q j ≠ 0) (d : decode M.2.1 pc = .ok (.aaload, 1)) (k : zx_X l rm M fl kc ks Z (pc + 1) L (.ref (h.2.2.1 q j) :: S) h) : zx_X l rm M fl kc ks Z pc L (.int x :: .ref q :: S) h := by
  intro D G α A p e s m args below meth c H locs ls C R hl
  have hk := k D G α A p e s m args below meth c H locs ls C R hl
  obtain ⟨hK, hA, hP, hD, hS, hok, hfr⟩ := R
  obtain ⟨o1, o2, o3⟩ := hok q (by rw [kd]; omega)
  rw [kd] at o3
  have he : (zx_wl G α h)[q - 1]? = some (α q, .inl (G.2.2.2.2, n, .inr (.inr (.inr (.inr (fun j => zx_opt α (h.2.2.1 q j))))))) := by rw [zx_wl_at o1 o2, zx_enc_q4 kd]
  subst hx
  have hin := vp_in_nI hj o3
  have hcl := nI_clamp (show j < 2 ^ 31 by omega)
  refine W.aald (v := .ref (α (h.2.2.1 q j))) (ty := .array .int) C.1 C.2.1 (hP (q - 1) _ he) ((hK.2 4 _ rfl).1 n (fun j => va_rf (zx_opt α (h.2.2.1 q j)))) rfl (fun z => by cases z) (by show ¬ (_ < 0 ∨ (arrV _ _ _).slots.size ≤ _); rw [arrV_size]; exact hin) (by show (arrV _ _ _).slots[_]? = _; rw [hcl, arrV_read _ _ hj]; simp [zx_opt, nz, va_rf]) rfl rfl d hk
/-- ends -/
theorem zx_iret {v : Int32} {Q : Option Value → zx_H → Prop} (d : decode M.2.1 pc = .ok (.ireturn, 1)) (hr : M.2.2.2 = some .int) (hq : Q (some (.int v)) h) (h1 : kc ≤ rm.cells) (h2 : ks ≤ rm.slots) (h3 : fl = true → kc = rm.cells) : zx_X l rm M fl kc ks (zx_Zr fl rm Q) pc L [.int v] h := by
  intro D G α A p e s m args below meth c H locs ls C R hl
  obtain ⟨hK, hA, hP, hD, hS, hok, hfr⟩ := R
  have hfr : fl = true → zx_fr α (s.heap.size + rm.cells) h ∧ rm.cells ≤ h.1.1 := fun q => by rw [← h3 q]; exact hfr q
  refine W.widen (k := rm.cells) (n := rm.slots) h1 h2 ?_
  exact W.iret C.1 C.2.1 (C.2.2.2.1.trans hr) (fun t ht hW => ⟨⟨some (.int v), h, rfl, hq, by rw [ht]; exact hP, hD, va_K.moved hW.alike hK, hok, hfr⟩, hS.F ht⟩) hS.2.2 d C.2.2.2.2.1
theorem zx_zret {v : Int32} {Q : Option Value → zx_H → Prop} (d : decode M.2.1 pc = .ok (.ireturn, 1)) (hr : M.2.2.2 = some .boolean) (hn : narrow .boolean (.int v) = .int v) (hq : Q (some (.int v)) h) (h1 : kc ≤ rm.cells) (h2 : ks ≤ rm.slots) (h3 : fl = true → kc = rm.cells) : zx_X l rm M fl kc ks (zx_Zr fl rm Q) pc L [.int v] h := by
  intro D G α A p e s m args below meth c H locs ls C R hl
  obtain ⟨hK, hA, hP, hD, hS, hok, hfr⟩ := R
  have hfr : fl = true → zx_fr α (s.heap.size + rm.cells) h ∧ rm.cells ≤ h.1.1 := fun q => by rw [← h3 q]; exact hfr q
  refine W.widen (k := rm.cells) (n := rm.slots) h1 h2 ?_
  exact W.zret C.1 C.2.1 (C.2.2.2.1.trans hr) hn (fun t ht hW => ⟨⟨some (.int v), h, rfl, hq, by rw [ht]; exact hP, hD, va_K.moved hW.alike hK, hok, hfr⟩, hS.F ht⟩) hS.2.2 d C.2.2.2.2.1
theorem zx_vret {Q : Option Value → zx_H → Prop} (d : decode M.2.1 pc = .ok (.return_, 1)) (hr : M.2.2.2 = none) (hq : Q none h) (h1 : kc ≤ rm.cells) (h2 : ks ≤ rm.slots) (h3 : fl = true → kc = rm.cells) : zx_X l rm M fl kc ks (zx_Zr fl rm Q) pc L [] h := by
  intro D G α A p e s m args below meth c H locs ls C R hl
  obtain ⟨hK, hA, hP, hD, hS, hok, hfr⟩ := R
  have hfr : fl = true → zx_fr α (s.heap.size + rm.cells) h ∧ rm.cells ≤ h.1.1 := fun q => by rw [← h3 q]; exact hfr q
  refine W.widen (k := rm.cells) (n := rm.slots) h1 h2 ?_
  exact W.vret C.1 C.2.1 (C.2.2.2.1.trans hr) (fun t ht hW => ⟨⟨none, h, rfl, hq, by rw [ht]; exact hP, hD, va_K.moved hW.alike hK, hok, hfr⟩, hS.F ht⟩) hS.2.2 d C.2.2.2.2.1
end ZY
end
section
/-! Calls. -/
abbrev zx_rm (d c s : Nat) : Room := { frames := d, cells := c, slots := s, locals := 40 * d }
theorem zx_size {D : va_G} {G : zx_G} {α : Nat → Nat} {A : Nat → Prop} {fl : Bool} {kc : Nat} {h : zx_H} {s : State} {H : Heap} {locs : List Loc} (R : zx_R D G α A fl kc h s H locs) (hu : H.size ≤ s.heap.size + kc) (hf : fl = true) : H.size = s.heap.size + kc := by
  obtain ⟨hK, hA, hP, hD, hS, hok, hfr⟩ := R
  obtain ⟨f1, f2⟩ := hfr hf
  by_cases hn : h.1.1 = 0
  · have := hS.1
    omega
  · have a := hP (h.1.1 - 1) _ (zx_wl_at (k := h.1.1) (by omega) (Nat.le_refl _))
    have b : α h.1.1 < H.size := a.lt
    have c := f1 (h.1.1 - 1)
    rw [Nat.sub_add_cancel (by omega)] at c
    omega
theorem zx_catsum (α : Nat → Nat) (S : List Value) : ((S.map (zx_cv α)).map fun v => v.category).sum = (S.map fun v => v.category).sum := by
  rw [List.map_map]
  congr 1
  exact List.map_congr_left (fun v _ => zx_cv_cat α v)
def zx_lk (own : String) (idx : Nat) (M2 : zx_M) (n : Nat) : Prop :=
  Cond.code M2.1 M2.2.1 M2.2.2.1 M2.2.2.2 ∈ zx_T ∧ Cond.initialized M2.1.cls ∈ zx_T ∧ (M2.1.cls ≠ "java/lang/invoke/MethodHandle" ∧ M2.1.cls ≠ "java/lang/invoke/VarHandle" ∧ (parseMethodDescriptor M2.1.desc).map (fun d => d.parameters.length) = some n) ∧ (Cond.methodLink own idx M2.1 ∈ zx_T ∨ ∃ host, Cond.methodLinkNest own idx M2.1 host ∈ zx_T)
theorem zx_good2 {M2 : zx_M} (h : Cond.code M2.1 M2.2.1 M2.2.2.1 M2.2.2.2 ∈ zx_T) : GoodIn zx_T (zx_ws M2) := by
  intro w hw
  rcases List.mem_cons.mp hw with rfl | hw
  · exact ⟨h, zx_Gd _ h⟩
  · exact ⟨hw, zx_Gd _ hw⟩
section ZC
variable {l : Launch} {rm : Room} {M : zx_M} {fl : Bool} {kc ks : Nat} {Z : zx_Zt} {pc : Nat} {L : List (Nat × Value)} {S : List Value} {h : zx_H}
variable {p : Program} {e : Env} {s : State} {m : MethodId} {args : Array Value} {below : List Frame} {meth : Method} {c : Code} {H : Heap} {locs : List Loc} {ls : Array Slot} {D : va_G} {G : zx_G} {α : Nat → Nat} {A : Nat → Prop}
theorem zx_after {Z2 : State → Prop} {st0 rest : List Value} {a : Array Value} {mc ms : Nat} {Q2 : Option Value → zx_H → Prop} (hr : va_Run p l e rm s m args below meth c H locs kc ks mc ms (F0 m pc ls st0) rest (zx_Qc D G α fl mc Q2 (va_A (zx_wl G α h) H.size) a) (va_A (zx_wl G α h) H.size)) (R : zx_R D G α A fl kc h s H locs) (hsz : fl = true → H.size = s.heap.size + kc)
    (kk : ∀ (r : Option Value) (h2 : zx_H) (H1 : Heap) (locs1 : List Loc), Q2 r h2 → zx_R D G α A fl (kc + mc) h2 s H1 locs1 → W p l e rm s m args below meth c H1 locs1 (kc + mc) (ks + ms) Z2 (F0 m (pc + 3) ls ((r.map (zx_cv α)).toList ++ rest))) : W p l e rm s m args below meth c H locs kc ks Z2 (F0 m pc ls st0) := by
  intro T hT X
  obtain ⟨v, st₀, t, T', Lx, h0, X', hL, e1, e2, ⟨⟨r, h2, hv, hq, hP1, hD1, hK1, hok1, hf1⟩, hz, hk⟩, st⟩ := hr T hT X
  cases hv
  rw [h0] at hz hk hf1
  obtain ⟨hK, hA, hP, hD, hS, hok, hfr⟩ := R
  have hFA : ∀ q, va_A (zx_wl G α h) H.size q → A q := by
    rintro q (⟨k, e0, hk⟩ | hk)
    · exact hD.2 k _ hk
    · exact hA q (Nat.le_trans hS.1 hk)
  obtain ⟨t2, a1, b1⟩ := kk r h2 T'.heap (locs ++ Lx) hq ⟨hK, hA, by rw [e1]; exact hP1, hD1.weaken (fun _ _ _ z => hFA _ z), ⟨Nat.le_trans hS.1 (by rw [e1]; exact hz), fun q h1 h2 => by rw [e1, hk q (Nat.lt_of_lt_of_le h1 hS.1) (fun z => h2 (hFA q z))]; exact hS.2.1 q h1 h2, fun q hq => by
      rcases List.mem_append.mp hq with h | h
      · exact hS.2.2 q h
      · exact hFA _ (hL q h)⟩, hok1, fun q => by
      obtain ⟨f1, f2⟩ := hfr q
      obtain ⟨g1, g2⟩ := hf1 q
      have z1 := f1 0
      have z2 := g1 0
      rw [hsz q] at g1 z2
      exact ⟨fun k => by have := g1 k; omega, by omega⟩⟩ T' rfl X'
  exact ⟨t2, st t2 a1, b1⟩
theorem zx_pre {M2 : zx_M} {As : List Value} (R : zx_R D G α A fl kc h s H locs) (hsz : fl = true → H.size = s.heap.size + kc) : PreS s H (va_Pc (As.map (zx_cv α)) (fun U => U.heap.size = H.size ∧ va_P D zx_cl (zx_wl G α h) U.heap ∧ zx_K D G U ∧ va_D (fun _ => True) (zx_wl G α h) ∧ zx_ok h ∧ (fl = true → zx_fr α H.size h))) (As.map (zx_cv α)) := by
  obtain ⟨hK, hA, hP, hD, hS, hok, hfr⟩ := R
  refine ⟨fun a U g mk q => ?_, fun U hU hW => ⟨rfl, by rw [hU], by rw [hU]; exact hP, va_K.moved hW.alike hK, hD.weaken (fun _ _ _ _ => trivial), hok, fun q => ?_⟩⟩
  · obtain ⟨q0, q1, qP, qK, qD, qo, qf⟩ := q
    exact ⟨q0, q1, qP, va_K.moved (u := U) (U := U.calling g mk a) (Vm.Alike.refl U.vm) qK, qD, qo, qf⟩
  · rw [hsz q]
    exact (hfr q).1
end ZC
section ZD
variable {l : Launch} {rm : Room} {M : zx_M} {fl : Bool} {kc ks : Nat} {Z : zx_Zt} {pc : Nat} {L : List (Nat × Value)} {S : List Value} {h : zx_H}
theorem zx_callV {M2 : zx_M} {rm2 : Room} {b idx n ci N : Nat} {T0 : u_T} {As S2 : List Value} {Q2 : Option Value → zx_H → Prop} (hC : zx_C l rm2 M2 fl (.ref b :: As) h Q2) (lk : zx_lk M.1.cls idx M2 n) (li : Cond.instanceMethod M2.1 ∈ zx_T) (lse : Cond.selects M2.1.cls M2.1 M2.1 ∈ zx_T) (hn : As.length = n) (kd : (h.1.2 b).1 = ci + 5) (hci : ci < 90) (hcl : zx_cl[ci]? = some (M2.1.cls, T0, N)) (hS : S = As.reverse ++ .ref b :: S2) (hW : (S2.map fun v => v.category).sum ≤ 8) (hrm : rm2.frames + 1 ≤ rm.frames ∧ 8 + (M2.2.2.1 + 11) + rm2.locals ≤ rm.locals) (hcs : kc + rm2.cells ≤ rm.cells ∧ ks + rm2.slots ≤ rm.slots) (d : decode M.2.1 pc = .ok (.invokevirtual idx, 3))
    (k : ∀ r h2, Q2 r h2 → zx_X l rm M fl (kc + rm2.cells) (ks + rm2.slots) Z (pc + 3) L (r.toList ++ S2) h2) : zx_X l rm M fl kc ks Z pc L S h := by
  intro D G α A p e s m args below meth c H locs ls C R hl T hT X
  have hsz : fl = true → H.size = s.heap.size + kc := fun q => zx_size R (by rw [← hT]; exact X.heapSize) q
  obtain ⟨l1, l2, l3, l4⟩ := lk
  have hts := C.2.2.2.2.2.2.1
  have hpre := zx_pre (M2 := M2) (As := .ref b :: As) R hsz
  obtain ⟨o1, o2, -⟩ := R.2.2.2.2.2.1 b (by omega)
  have he : (zx_wl G α h)[b - 1]? = some (α b, .inr (ci, zx_fs (zx_ft ci) α (h.2.1 b) (h.2.2.1 b))) := by rw [zx_wl_at o1 o2, zx_enc_obj kd]
  have hrec := va_recv R.1 R.2.2.1 hcl he
  have hst : S.map (zx_cv α) = (As.map (zx_cv α)).reverse ++ .ref (α b) :: S2.map (zx_cv α) := by rw [hS]; simp [zx_cv]
  have hsig : ∀ sig, parseMethodDescriptor M2.1.desc = some sig → n = sig.parameters.length := fun sig hg => by
    have h2 := l3.2.2
    rw [hg] at h2
    exact (Option.some.inj h2).symm
  have hFix : CallFix p m c M.2.1 M.2.2.1 s args zx_T M.1.cls := ⟨C.1, C.2.1, C.2.2.1, C.2.2.2.2.2.1, hts⟩
  have hmem : Cond.code M2.1 M2.2.1 M2.2.2.1 M2.2.2.2 ∈ zx_ws M2 := List.mem_cons_self
  have hr : va_Run p l e rm s m args below meth c H locs kc ks rm2.cells rm2.slots (F0 m pc ls (S.map (zx_cv α))) (S2.map (zx_cv α)) (zx_Qc D G α fl rm2.cells Q2 (va_A (zx_wl G α h) H.size) (Value.ref (α b) :: As.map (zx_cv α)).toArray) (va_A (zx_wl G α h) H.size) := by
    rcases l4 with hl4 | ⟨host, hl4⟩
    · exact va_runV hFix (hC D G α H.size) ⟨⟨rfl, rfl, hrm.1, hrm.2, pay_in hts (zx_good2 l1), hmem, hts _ l1, hts _ l2, ⟨l3.1, l3.2.1⟩, hsig, hts _ hl4⟩, hts _ li, hts _ lse⟩ ⟨hpre.1, hrec, hpre.2⟩ rfl (by rw [List.length_map]; exact hn) hl.1 hst (lv_room (by rw [zx_catsum]; exact hW)) d hcs
    · exact va_runVN hFix (hC D G α H.size) ⟨⟨⟨rfl, rfl, hrm.1, hrm.2, pay_in hts (zx_good2 l1), hmem⟩, hts _ l1, hts _ l2, ⟨l3.1, l3.2.1⟩, hsig, hts _ hl4⟩, hts _ li, hts _ lse⟩ ⟨hpre.1, hrec, hpre.2⟩ rfl (by rw [List.length_map]; exact hn) hl.1 hst (lv_room (by rw [zx_catsum]; exact hW)) d hcs
  refine zx_after hr R hsz (fun r h2 H1 locs1 hq R1 => ?_) T hT X
  have := k r h2 hq D G α A p e s m args below meth c H1 locs1 ls C R1 hl
  rw [List.map_append] at this
  cases r <;> exact this
theorem zx_callS {M2 : zx_M} {rm2 : Room} {idx n : Nat} {As S2 : List Value} {Q2 : Option Value → zx_H → Prop} (hC : zx_C l rm2 M2 fl As h Q2) (lk : zx_lk M.1.cls idx M2 n) (li : Cond.static M2.1 ∈ zx_T) (hn : As.length = n) (hS : S = As.reverse ++ S2) (hW : (S2.map fun v => v.category).sum ≤ 8) (hrm : rm2.frames + 1 ≤ rm.frames ∧ 8 + (M2.2.2.1 + 11) + rm2.locals ≤ rm.locals) (hcs : kc + rm2.cells ≤ rm.cells ∧ ks + rm2.slots ≤ rm.slots) (d : decode M.2.1 pc = .ok (.invokestatic idx, 3))
    (k : ∀ r h2, Q2 r h2 → zx_X l rm M fl (kc + rm2.cells) (ks + rm2.slots) Z (pc + 3) L (r.toList ++ S2) h2) : zx_X l rm M fl kc ks Z pc L S h := by
  intro D G α A p e s m args below meth c H locs ls C R hl T hT X
  have hsz : fl = true → H.size = s.heap.size + kc := fun q => zx_size R (by rw [← hT]; exact X.heapSize) q
  obtain ⟨l1, l2, l3, l4⟩ := lk
  have hts := C.2.2.2.2.2.2.1
  have hpre := zx_pre (M2 := M2) (As := As) R hsz
  have hst : S.map (zx_cv α) = (As.map (zx_cv α)).reverse ++ S2.map (zx_cv α) := by rw [hS]; simp
  have hsig : ∀ sig, parseMethodDescriptor M2.1.desc = some sig → n = sig.parameters.length := fun sig hg => by
    have h2 := l3.2.2
    rw [hg] at h2
    exact (Option.some.inj h2).symm
  have hFix : CallFix p m c M.2.1 M.2.2.1 s args zx_T M.1.cls := ⟨C.1, C.2.1, C.2.2.1, C.2.2.2.2.2.1, hts⟩
  have hmem : Cond.code M2.1 M2.2.1 M2.2.2.1 M2.2.2.2 ∈ zx_ws M2 := List.mem_cons_self
  have hr : va_Run p l e rm s m args below meth c H locs kc ks rm2.cells rm2.slots (F0 m pc ls (S.map (zx_cv α))) (S2.map (zx_cv α)) (zx_Qc D G α fl rm2.cells Q2 (va_A (zx_wl G α h) H.size) (As.map (zx_cv α)).toArray) (va_A (zx_wl G α h) H.size) := by
    rcases l4 with hl4 | ⟨host, hl4⟩
    · exact va_runS hFix (hC D G α H.size) ⟨⟨rfl, rfl, hrm.1, hrm.2, pay_in hts (zx_good2 l1), hmem, hts _ l1, hts _ l2, ⟨l3.1, l3.2.1⟩, hsig, hts _ hl4⟩, hts _ li⟩ hpre rfl (by rw [List.length_map]; exact hn) hl.1 hst (lv_room (by rw [zx_catsum]; exact hW)) d hcs
    · exact va_runSN hFix (hC D G α H.size) ⟨⟨⟨rfl, rfl, hrm.1, hrm.2, pay_in hts (zx_good2 l1), hmem⟩, hts _ l1, hts _ l2, ⟨l3.1, l3.2.1⟩, hsig, hts _ hl4⟩, hts _ li, trivial⟩ hpre rfl (by rw [List.length_map]; exact hn) hl.1 hst (lv_room (by rw [zx_catsum]; exact hW)) d hcs
  refine zx_after hr R hsz (fun r h2 H1 locs1 hq R1 => ?_) T hT X
  have := k r h2 hq D G α A p e s m args below meth c H1 locs1 ls C R1 hl
  rw [List.map_append] at this
  cases r <;> exact this
theorem zx_callI {M2 : zx_M} {rm2 : Room} {b idx n : Nat} {As S2 : List Value} {Q2 : Option Value → zx_H → Prop} (hC : zx_C l rm2 M2 fl (.ref b :: As) h Q2) (lk : zx_lk M.1.cls idx M2 n) (li : Cond.instanceMethod M2.1 ∈ zx_T) (hret : M2.2.2.2 = none) (hnm : M2.1.name = "<init>") (hn : As.length = n) (hS : S = As.reverse ++ .ref b :: S2) (hW : (S2.map fun v => v.category).sum ≤ 8) (hrm : rm2.frames + 1 ≤ rm.frames ∧ 8 + (M2.2.2.1 + 11) + rm2.locals ≤ rm.locals) (hcs : kc + rm2.cells ≤ rm.cells ∧ ks + rm2.slots ≤ rm.slots) (d : decode M.2.1 pc = .ok (.invokespecial idx, 3))
    (k : ∀ r h2, Q2 r h2 → zx_X l rm M fl (kc + rm2.cells) (ks + rm2.slots) Z (pc + 3) L (r.toList ++ S2) h2) : zx_X l rm M fl kc ks Z pc L S h := by
  intro D G α A p e s m args below meth c H locs ls C R hl T hT X
  have hsz : fl = true → H.size = s.heap.size + kc := fun q => zx_size R (by rw [← hT]; exact X.heapSize) q
  obtain ⟨l1, l2, l3, l4⟩ := lk
  have hts := C.2.2.2.2.2.2.1
  have hpre := zx_pre (M2 := M2) (As := .ref b :: As) R hsz
  have hst : S.map (zx_cv α) = (As.map (zx_cv α)).reverse ++ .ref (α b) :: S2.map (zx_cv α) := by rw [hS]; simp [zx_cv]
  have hsig : ∀ sig, parseMethodDescriptor M2.1.desc = some sig → n = sig.parameters.length := fun sig hg => by
    have h2 := l3.2.2
    rw [hg] at h2
    exact (Option.some.inj h2).symm
  have hFix : CallFix p m c M.2.1 M.2.2.1 s args zx_T M.1.cls := ⟨C.1, C.2.1, C.2.2.1, C.2.2.2.2.2.1, hts⟩
  have hmem : Cond.code M2.1 M2.2.1 M2.2.2.1 none ∈ zx_ws M2 := by rw [← hret]; exact List.mem_cons_self
  have l1n : Cond.code M2.1 M2.2.1 M2.2.2.1 none ∈ zx_T := by rw [← hret]; exact l1
  have hr : va_Run p l e rm s m args below meth c H locs kc ks rm2.cells rm2.slots (F0 m pc ls (S.map (zx_cv α))) (S2.map (zx_cv α)) (zx_Qc D G α fl rm2.cells Q2 (va_A (zx_wl G α h) H.size) (Value.ref (α b) :: As.map (zx_cv α)).toArray) (va_A (zx_wl G α h) H.size) := by
    rcases l4 with hl4 | ⟨host, hl4⟩
    · exact va_runI hFix (hC D G α H.size) ⟨⟨rfl, rfl, hrm.1, hrm.2, pay_in hts (zx_good2 l1), hmem, hts _ l1n, hts _ l2, ⟨l3.1, l3.2.1⟩, hsig, hts _ hl4⟩, hnm, hts _ li⟩ hpre rfl (by rw [List.length_map]; exact hn) hl.1 hst (lv_room (by rw [zx_catsum]; exact hW)) d hcs
    · exact va_runIN hFix (hC D G α H.size) ⟨⟨⟨rfl, rfl, hrm.1, hrm.2, pay_in hts (zx_good2 l1), hmem⟩, hts _ l1n, hts _ l2, ⟨l3.1, l3.2.1⟩, hsig, hts _ hl4⟩, hnm, hts _ li⟩ hpre rfl (by rw [List.length_map]; exact hn) hl.1 hst (lv_room (by rw [zx_catsum]; exact hW)) d hcs
  refine zx_after hr R hsz (fun r h2 H1 locs1 hq R1 => ?_) T hT X
  have := k r h2 hq D G α A p e s m args below meth c H1 locs1 ls C R1 hl
  rw [List.map_append] at this
  cases r <;> exact this
/-- Object's constructor -/
theorem zx_objInit {idx o : Nat} (w1 : Cond.methodLink M.1.cls idx Lib.objectInit ∈ zx_T) (w2 : Cond.instanceMethod Lib.objectInit ∈ zx_T) (w3 : Cond.code Lib.objectInit ⟨#[0xb1]⟩ 1 none ∈ zx_T) (hr : 1 ≤ rm.frames) (hlo : (S.map fun v => v.category).sum + 12 ≤ rm.locals) (d : decode M.2.1 pc = .ok (.invokespecial idx, 3)) (k : zx_X l rm M fl kc ks Z (pc + 3) L S h) : zx_X l rm M fl kc ks Z pc L (.ref o :: S) h := by
  intro D G α A p e s m args below meth c H locs ls C R hl
  have hts := C.2.2.2.2.2.2.1
  exact W.objInit C.1 C.2.1 C.2.2.2.2.2.1 (hts _ w1) (hts _ w2) (hts _ w3) rfl (hl.1.trans C.2.2.1.symm) rfl d hr (by show 2 * 0 + _ + 12 ≤ _; rw [zx_catsum]; omega) (k D G α A p e s m args below meth c H locs ls C R hl)
end ZD
end
section
/-! Heaps in which only the ints change: K (kinds) and RJ (references, longs) stay. -/
abbrev zx_Kt : Type := Nat × (Nat → Nat × Nat)
abbrev zx_RJ : Type := (Nat → Nat → Nat) × (Nat → Nat → Int64)
abbrev zi_I : Type := Nat → Nat → Int32
abbrev zi_Q : Type := Option Value → zi_I → Prop
abbrev zi_P (K : zx_Kt) (RJ : zx_RJ) (Q : zi_Q) : Option Value → zx_H → Prop := fun r h => ∃ I : zi_I, h = (K, I, RJ) ∧ Q r I
abbrev zi_X (l : Launch) (rm : Room) (M : zx_M) (K : zx_Kt) (RJ : zx_RJ) (Q : zi_Q) (pc : Nat) (L : List (Nat × Value)) (S : List Value) (I : zi_I) : Prop := zx_X l rm M false 0 0 (zx_Zr false rm (zi_P K RJ Q)) pc L S (K, I, RJ)
abbrev zi_C (l : Launch) (rm : Room) (M : zx_M) (As : List Value) (K : zx_Kt) (RJ : zx_RJ) (I : zi_I) (Q : zi_Q) : Prop := zx_C l rm M false As (K, I, RJ) (zi_P K RJ Q)
theorem zx_C.mono {l : Launch} {rm : Room} {M : zx_M} {fl : Bool} {As : List Value} {h : zx_H} {Q Q2 : Option Value → zx_H → Prop} (hC : zx_C l rm M fl As h Q) (hq : ∀ r h2, Q r h2 → Q2 r h2) : zx_C l rm M fl As h Q2 := by
  intro D G α sz p e ha hc hk s m args below hf happ hP hK
  obtain ⟨n, o, h1, h2, h3, ⟨⟨⟨r, h', ho, hQ, hrest⟩, hF⟩, hL⟩⟩ := hC D G α sz p e ha hc hk s m args below hf happ hP hK
  exact ⟨n, o, h1, h2, h3, ⟨⟨⟨r, h', ho, hq _ _ hQ, hrest⟩, hF⟩, hL⟩⟩
theorem zi_mono {l : Launch} {rm : Room} {M : zx_M} {As : List Value} {K : zx_Kt} {RJ : zx_RJ} {I : zi_I} {Q Q2 : zi_Q} (hC : zi_C l rm M As K RJ I Q) (hq : ∀ r I2, Q r I2 → Q2 r I2) : zi_C l rm M As K RJ I Q2 := hC.mono (fun r h2 ⟨I2, e, q⟩ => ⟨I2, e, hq r I2 q⟩)
theorem zi_of {l : Launch} {d : Nat} {M : zx_M} {As : List Value} {K : zx_Kt} {RJ : zx_RJ} {I : zi_I} {Q : zi_Q} (hy : plainName M.1.cls = true) (hn : ∀ α : Nat → Nat, (lg_sl (As.map (zx_cv α))).length ≤ M.2.2.1) (k : zi_X l (zx_rm d 0 0) M K RJ Q 0 (lv_args 0 As) [] I) : zi_C l (zx_rm d 0 0) M As K RJ I Q := zx_C.of hy hn k
def zi_minv (x y : Int32) : Int32 := if y < x then y else x
def zi_maxv (x y : Int32) : Int32 := if x < y then y else x
def zi_absv (x : Int32) : Int32 := if 0 ≤ x then x else 0 - x
def zi_cpy (I : zi_I) (q p sp dp n : Nat) : zi_I := fun a i => if a = p then va_cpy (I q) (I p) sp dp n i else I a i
section ZI
variable {l : Launch} {rm : Room} {M : zx_M} {Z : zx_Zt} {pc : Nat} {L : List (Nat × Value)} {S : List Value} {K : zx_Kt} {RJ : zx_RJ} {I : zi_I} {Q : zi_Q} {fl : Bool} {kc ks : Nat}
theorem zi_getI {o ci j idx : Nat} {fin : Bool} (f : zx_fld M.1.cls idx ci j false fin) (kd : (K.2 o).1 = ci + 5) (hci : ci < 90) (d : decode M.2.1 pc = .ok (.getfield idx, 3)) (k : zx_X l rm M fl kc ks Z (pc + 3) L (.int (I o j) :: S) (K, I, RJ)) : zx_X l rm M fl kc ks Z pc L (.ref o :: S) (K, I, RJ) := zx_getI (h := (K, I, RJ)) f kd hci d k
theorem zi_getR {o ci j idx r : Nat} {fin : Bool} (f : zx_fld M.1.cls idx ci j true fin) (kd : (K.2 o).1 = ci + 5) (hci : ci < 90) (e : RJ.1 o j = r) (nz : r ≠ 0) (d : decode M.2.1 pc = .ok (.getfield idx, 3)) (k : zx_X l rm M fl kc ks Z (pc + 3) L (.ref r :: S) (K, I, RJ)) : zx_X l rm M fl kc ks Z pc L (.ref o :: S) (K, I, RJ) := by
  subst e
  exact zx_getR (h := (K, I, RJ)) f kd hci nz d k
theorem zi_putI {o ci j idx : Nat} {v : Int32} (f : zx_fld M.1.cls idx ci j false false) (kd : (K.2 o).1 = ci + 5) (hci : ci < 90) (d : decode M.2.1 pc = .ok (.putfield idx, 3)) (k : zx_X l rm M fl kc ks Z (pc + 3) L S (K, zx_u2 I o j v, RJ)) : zx_X l rm M fl kc ks Z pc L (.int v :: .ref o :: S) (K, I, RJ) := zx_putI (h := (K, I, RJ)) f kd hci d k
theorem zi_iald {q n : Nat} {x : Int32} (j : Nat) (kd : K.2 q = (0, n)) (hx : x = nI j) (hj : j < n) (d : decode M.2.1 pc = .ok (.iaload, 1)) (k : zx_X l rm M fl kc ks Z (pc + 1) L (.int (I q j) :: S) (K, I, RJ)) : zx_X l rm M fl kc ks Z pc L (.int x :: .ref q :: S) (K, I, RJ) := zx_iald (h := (K, I, RJ)) j kd hx hj d k
theorem zi_zald {q n : Nat} {x : Int32} (j : Nat) (kd : K.2 q = (1, n)) (hx : x = nI j) (hj : j < n) (d : decode M.2.1 pc = .ok (.baload, 1)) (k : zx_X l rm M fl kc ks Z (pc + 1) L (.int (I q j) :: S) (K, I, RJ)) : zx_X l rm M fl kc ks Z pc L (.int x :: .ref q :: S) (K, I, RJ) := zx_zald (h := (K, I, RJ)) j kd hx hj d k
theorem zi_iast {q n : Nat} {x v : Int32} (j : Nat) (kd : K.2 q = (0, n)) (hx : x = nI j) (hj : j < n) (d : decode M.2.1 pc = .ok (.iastore, 1)) (k : zx_X l rm M fl kc ks Z (pc + 1) L S (K, zx_u2 I q j v, RJ)) : zx_X l rm M fl kc ks Z pc L (.int v :: .int x :: .ref q :: S) (K, I, RJ) := zx_iast (h := (K, I, RJ)) j kd hx hj d k
theorem zi_zast {q n : Nat} {x v : Int32} (j : Nat) (kd : K.2 q = (1, n)) (hx : x = nI j) (hj : j < n) (hv : vp_nar .boolean v = v) (d : decode M.2.1 pc = .ok (.bastore, 1)) (k : zx_X l rm M fl kc ks Z (pc + 1) L S (K, zx_u2 I q j v, RJ)) : zx_X l rm M fl kc ks Z pc L (.int v :: .int x :: .ref q :: S) (K, I, RJ) := zx_zast (h := (K, I, RJ)) j kd hx hj hv d k
theorem zi_alen {q n : Nat} (kd : K.2 q = (0, n)) (d : decode M.2.1 pc = .ok (.arraylength, 1)) (k : zx_X l rm M fl kc ks Z (pc + 1) L (.int (nI n) :: S) (K, I, RJ)) : zx_X l rm M fl kc ks Z pc L (.ref q :: S) (K, I, RJ) := zx_alen (h := (K, I, RJ)) kd d k
theorem zi_aald3 {q n r : Nat} {x : Int32} (j : Nat) (kd : K.2 q = (3, n)) (hx : x = nI j) (hj : j < n) (e : RJ.1 q j = r) (nz : r ≠ 0) (d : decode M.2.1 pc = .ok (.aaload, 1)) (k : zx_X l rm M fl kc ks Z (pc + 1) L (.ref r :: S) (K, I, RJ)) : zx_X l rm M fl kc ks Z pc L (.int x :: .ref q :: S) (K, I, RJ) := by
  subst e
  exact zx_aald3 (h := (K, I, RJ)) j kd hx hj nz d k
theorem zi_aald4 {q n r : Nat} {x : Int32} (j : Nat) (kd : K.2 q = (4, n)) (hx : x = nI j) (hj : j < n) (e : RJ.1 q j = r) (nz : r ≠ 0) (d : decode M.2.1 pc = .ok (.aaload, 1)) (k : zx_X l rm M fl kc ks Z (pc + 1) L (.ref r :: S) (K, I, RJ)) : zx_X l rm M fl kc ks Z pc L (.int x :: .ref q :: S) (K, I, RJ) := by
  subst e
  exact zx_aald4 (h := (K, I, RJ)) j kd hx hj nz d k
theorem zi_iret {D cc sc : Nat} {v : Int32} (d : decode M.2.1 pc = .ok (.ireturn, 1)) (hr : M.2.2.2 = some .int) (hq : Q (some (.int v)) I) : zi_X l (zx_rm D cc sc) M K RJ Q pc L [.int v] I := zx_iret d hr ⟨I, rfl, hq⟩ (Nat.zero_le _) (Nat.zero_le _) (fun q => by cases q)
theorem zi_zret {D cc sc : Nat} {v : Int32} (d : decode M.2.1 pc = .ok (.ireturn, 1)) (hr : M.2.2.2 = some .boolean) (hn : narrow .boolean (.int v) = .int v) (hq : Q (some (.int v)) I) : zi_X l (zx_rm D cc sc) M K RJ Q pc L [.int v] I := zx_zret d hr hn ⟨I, rfl, hq⟩ (Nat.zero_le _) (Nat.zero_le _) (fun q => by cases q)
theorem zi_vret {D cc sc : Nat} (d : decode M.2.1 pc = .ok (.return_, 1)) (hr : M.2.2.2 = none) (hq : Q none I) : zi_X l (zx_rm D cc sc) M K RJ Q pc L [] I := zx_vret d hr ⟨I, rfl, hq⟩ (Nat.zero_le _) (Nat.zero_le _) (fun q => by cases q)
def zi_lkV (own : String) (idx : Nat) (M2 : zx_M) (n : Nat) (ci : Nat) : Prop := zx_lk own idx M2 n ∧ Cond.instanceMethod M2.1 ∈ zx_T ∧ Cond.selects M2.1.cls M2.1 M2.1 ∈ zx_T ∧ ∃ T N, zx_cl[ci]? = some (M2.1.cls, T, N)
def zi_lkS (own : String) (idx : Nat) (M2 : zx_M) (n : Nat) : Prop := zx_lk own idx M2 n ∧ Cond.static M2.1 ∈ zx_T
theorem zi_callV {dd cc sc : Nat} {M2 : zx_M} {b idx n ci : Nat} {As S2 : List Value} {Q2 : zi_Q} (hC : zi_C l (zx_rm dd 0 0) M2 (.ref b :: As) K RJ I Q2) (lk : zi_lkV M.1.cls idx M2 n ci) (kd : (K.2 b).1 = ci + 5) (hci : ci < 90) (hn : As.length = n) (hS : S = As.reverse ++ .ref b :: S2) (hW : (S2.map fun v => v.category).sum ≤ 8) (hm : M2.2.2.1 ≤ 21) (d : decode M.2.1 pc = .ok (.invokevirtual idx, 3))
    (k : ∀ r I2, Q2 r I2 → zx_X l (zx_rm (dd + 1) cc sc) M false 0 0 Z (pc + 3) L (r.toList ++ S2) (K, I2, RJ)) : zx_X l (zx_rm (dd + 1) cc sc) M false 0 0 Z pc L S (K, I, RJ) := by
  obtain ⟨l1, l2, l3, T, N, l4⟩ := lk
  refine zx_callV (h := (K, I, RJ)) hC l1 l2 l3 hn kd hci l4 hS hW ⟨Nat.le_refl _, ?_⟩ ⟨Nat.zero_le _, Nat.zero_le _⟩ d ?_
  · show 8 + (M2.2.2.1 + 11) + 40 * dd ≤ 40 * (dd + 1)
    omega
  · rintro r h2 ⟨I2, rfl, hq⟩
    exact k r I2 hq
theorem zi_callS {dd cc sc : Nat} {M2 : zx_M} {idx n : Nat} {As S2 : List Value} {Q2 : zi_Q} (hC : zi_C l (zx_rm dd 0 0) M2 As K RJ I Q2) (lk : zi_lkS M.1.cls idx M2 n) (hn : As.length = n) (hS : S = As.reverse ++ S2) (hW : (S2.map fun v => v.category).sum ≤ 8) (hm : M2.2.2.1 ≤ 21) (d : decode M.2.1 pc = .ok (.invokestatic idx, 3))
    (k : ∀ r I2, Q2 r I2 → zx_X l (zx_rm (dd + 1) cc sc) M false 0 0 Z (pc + 3) L (r.toList ++ S2) (K, I2, RJ)) : zx_X l (zx_rm (dd + 1) cc sc) M false 0 0 Z pc L S (K, I, RJ) := by
  obtain ⟨l1, l2⟩ := lk
  refine zx_callS (h := (K, I, RJ)) hC l1 l2 hn hS hW ⟨Nat.le_refl _, ?_⟩ ⟨Nat.zero_le _, Nat.zero_le _⟩ d ?_
  · show 8 + (M2.2.2.1 + 11) + 40 * dd ≤ 40 * (dd + 1)
    omega
  · rintro r h2 ⟨I2, rfl, hq⟩
    exact k r I2 hq
/-- Math.min, max, abs -/
def zi_wm (own : String) (idx : Nat) (y : MethodName) (b : ByteArray) (n : Nat) : Prop := Cond.methodLink own idx y ∈ zx_T ∧ Cond.static y ∈ zx_T ∧ Cond.initialized "java/lang/Math" ∈ zx_T ∧ Cond.code y b n (some .int) ∈ zx_T
theorem zi_min {dd cc sc idx : Nat} {x y : Int32} (w : zi_wm M.1.cls idx Lib.Math.min.name Lib.Math.min.code 2) (hW : (S.map fun v => v.category).sum ≤ 8) (d : decode M.2.1 pc = .ok (.invokestatic idx, 3)) (k : zx_X l (zx_rm (dd + 1) cc sc) M false 0 0 Z (pc + 3) L (.int (zi_minv x y) :: S) (K, I, RJ)) : zx_X l (zx_rm (dd + 1) cc sc) M false 0 0 Z pc L (.int y :: .int x :: S) (K, I, RJ) := by
  intro D G α A p e s m args below meth c H locs ls C R hl
  have hts := C.2.2.2.2.2.2.1
  exact va_mmin C.1 C.2.1 (C.2.2.1.trans hl.1.symm) C.2.2.2.2.2.1 (hts _ w.1) (hts _ w.2.1) (hts _ w.2.2.1) (hts _ w.2.2.2) (Nat.le_add_left _ _) (by rw [zx_catsum]; show _ ≤ 40 * (dd + 1); omega) (Nat.zero_le _) (Nat.zero_le _) d (k D G α A p e s m args below meth c H locs ls C R hl)
theorem zi_max {dd cc sc idx : Nat} {x y : Int32} (w : zi_wm M.1.cls idx Lib.Math.max.name Lib.Math.max.code 2) (hW : (S.map fun v => v.category).sum ≤ 8) (d : decode M.2.1 pc = .ok (.invokestatic idx, 3)) (k : zx_X l (zx_rm (dd + 1) cc sc) M false 0 0 Z (pc + 3) L (.int (zi_maxv x y) :: S) (K, I, RJ)) : zx_X l (zx_rm (dd + 1) cc sc) M false 0 0 Z pc L (.int y :: .int x :: S) (K, I, RJ) := by
  intro D G α A p e s m args below meth c H locs ls C R hl
  have hts := C.2.2.2.2.2.2.1
  exact va_mmax C.1 C.2.1 (C.2.2.1.trans hl.1.symm) C.2.2.2.2.2.1 (hts _ w.1) (hts _ w.2.1) (hts _ w.2.2.1) (hts _ w.2.2.2) (Nat.le_add_left _ _) (by rw [zx_catsum]; show _ ≤ 40 * (dd + 1); omega) (Nat.zero_le _) (Nat.zero_le _) d (k D G α A p e s m args below meth c H locs ls C R hl)
theorem zi_abs {dd cc sc idx : Nat} {x : Int32} (w : zi_wm M.1.cls idx Lib.Math.abs.name Lib.Math.abs.code 1) (hW : (S.map fun v => v.category).sum ≤ 8) (d : decode M.2.1 pc = .ok (.invokestatic idx, 3)) (k : zx_X l (zx_rm (dd + 1) cc sc) M false 0 0 Z (pc + 3) L (.int (zi_absv x) :: S) (K, I, RJ)) : zx_X l (zx_rm (dd + 1) cc sc) M false 0 0 Z pc L (.int x :: S) (K, I, RJ) := by
  intro D G α A p e s m args below meth c H locs ls C R hl
  have hts := C.2.2.2.2.2.2.1
  exact va_mabs C.1 C.2.1 (C.2.2.1.trans hl.1.symm) C.2.2.2.2.2.1 (hts _ w.1) (hts _ w.2.1) (hts _ w.2.2.1) (hts _ w.2.2.2) (Nat.le_add_left _ _) (by rw [zx_catsum]; show _ ≤ 40 * (dd + 1); omega) (Nat.zero_le _) (Nat.zero_le _) d (k D G α A p e s m args below meth c H locs ls C R hl)
/-- System.arraycopy of ints -/
def zi_wc (own : String) (idx : Nat) : Prop := Cond.methodLink own idx arraycopyName ∈ zx_T ∧ Cond.native arraycopyName ∈ zx_T ∧ Cond.static arraycopyName ∈ zx_T ∧ Cond.initialized "java/lang/System" ∈ zx_T
theorem zi_copy {dd cc sc idx q q2 n1 n2 : Nat} {x y z : Int32} (sp dp n : Nat) (w : zi_wc M.1.cls idx) (k1 : K.2 q = (0, n1)) (k2 : K.2 q2 = (0, n2)) (e1 : x = nI sp) (e2 : y = nI dp) (e3 : z = nI n) (b1 : sp + n ≤ n1) (b2 : dp + n ≤ n2) (hW : (S.map fun v => v.category).sum ≤ 8) (d : decode M.2.1 pc = .ok (.invokestatic idx, 3)) (k : zx_X l (zx_rm (dd + 1) cc sc) M false 0 0 Z (pc + 3) L S (K, zi_cpy I q q2 sp dp n, RJ)) : zx_X l (zx_rm (dd + 1) cc sc) M false 0 0 Z pc L (.int z :: .int y :: .ref q2 :: .int x :: .ref q :: S) (K, I, RJ) := by
  intro D G α A p e s m args below meth c H locs ls C R hl
  have hts := C.2.2.2.2.2.2.1
  obtain ⟨hK, hA, hP, hD, hS, hok, hfr⟩ := R
  obtain ⟨o1, o2, o3⟩ := hok q (by show (K.2 q).1 < 100; rw [k1]; omega)
  obtain ⟨p1, p2, p3⟩ := hok q2 (by show (K.2 q2).1 < 100; rw [k2]; omega)
  have o3 : n1 < 2 ^ 31 := by have : (K.2 q).2 < 2 ^ 31 := o3; rw [k1] at this; exact this
  have p3 : n2 < 2 ^ 31 := by have : (K.2 q2).2 < 2 ^ 31 := p3; rw [k2] at this; exact this
  have he : (zx_wl G α (K, I, RJ))[q - 1]? = some (α q, .inl (G.1, n1, .inl (I q))) := by rw [zx_wl_at o1 o2, zx_enc_int (n := n1) k1]
  have he2 : (zx_wl G α (K, I, RJ))[q2 - 1]? = some (α q2, .inl (G.1, n2, .inl (I q2))) := by rw [zx_wl_at p1 p2, zx_enc_int (n := n2) k2]
  subst e1; subst e2; subst e3
  have c1 : (nI sp).toNatClampNeg = sp := nI_clamp (by omega)
  have c2 : (nI dp).toNatClampNeg = dp := nI_clamp (by omega)
  have c3 : (nI n).toNatClampNeg = n := nI_clamp (by omega)
  have hnw : nativeFrameWords "java/lang/System" "arraycopy" 5 + 11 ≤ 32 := by decide +kernel
  have hlo : ((S.map (zx_cv α)).map fun v => v.category).sum + (nativeFrameWords "java/lang/System" "arraycopy" 5 + 11) ≤ (zx_rm (dd + 1) cc sc).locals := by
    rw [zx_catsum]
    show _ ≤ 40 * (dd + 1)
    omega
  refine va_copyi (sp := nI sp) (dp := nI dp) (n := nI n) C.1 C.2.1 (C.2.2.1.trans hl.1.symm) C.2.2.2.2.2.1 (hts _ w.1) (hts _ w.2.1) (hts _ w.2.2.1) (hts _ w.2.2.2) hK hP hD hS (q - 1) (q2 - 1) 0 0 he he2 (ty := .int) rfl rfl rfl (nI_pos (by omega)) (nI_pos (by omega)) (nI_pos (by omega)) (by rw [c1, c3]; exact b1) (by rw [c2, c3]; exact b2) (fun i hi => rfl) (Nat.le_add_left _ _) hlo d (fun H1 locs1 hP1 hD1 hS1 => ?_)
  have hset : (zx_wl G α (K, I, RJ)).set (q2 - 1) (α q2, .inl (G.1, n2, .inl (va_cpy (I q) (I q2) (nI sp).toNatClampNeg (nI dp).toNatClampNeg (nI n).toNatClampNeg))) = zx_wl G α (K, zi_cpy I q q2 sp dp n, RJ) := by
    rw [nI_clamp (by omega), nI_clamp (by omega), nI_clamp (by omega)]
    rw [show (.inl (G.1, n2, .inl (va_cpy (I q) (I q2) sp dp n)) : va_E) = zx_enc G α (K, zi_cpy I q q2 sp dp n, RJ) q2 from by
      rw [zx_enc_int (h := (K, zi_cpy I q q2 sp dp n, RJ)) (n := n2) k2]
      show _ = Sum.inl (G.1, n2, Sum.inl (zi_cpy I q q2 sp dp n q2))
      congr 4
      funext i
      simp [zi_cpy]]
    refine zx_wl_set (h := (K, I, RJ)) (h' := (K, zi_cpy I q q2 sp dp n, RJ)) rfl (fun a ha => ?_) (fun _ _ => rfl) (fun _ _ => rfl) p1 p2
    funext i
    simp [zi_cpy, ha]
  rw [hset] at hP1 hD1
  exact k D G α A p e s m args below meth c H1 locs1 ls C ⟨hK, hA, hP1, hD1, hS1, hok, hfr⟩ hl
end ZI
end
section
/-! Cells that are made. -/
def zx_push (h : zx_H) (kd : Nat × Nat) : zx_H := ((h.1.1 + 1, fun k => if k = h.1.1 + 1 then kd else h.1.2 k), (fun q i => if q = h.1.1 + 1 then 0 else h.2.1 q i), (fun q i => if q = h.1.1 + 1 then 0 else h.2.2.1 q i), (fun q i => if q = h.1.1 + 1 then 0 else h.2.2.2 q i))
theorem zx_enc_push {G : zx_G} {α : Nat → Nat} {h : zx_H} {kd : Nat × Nat} {k : Nat} (hk : k ≠ h.1.1 + 1) : zx_enc G α (zx_push h kd) k = zx_enc G α h k := by
  unfold zx_enc zx_push
  simp only [if_neg hk]
theorem zx_wl_push {G : zx_G} {α : Nat → Nat} {h : zx_H} {kd : Nat × Nat} : zx_wl G α (zx_push h kd) = zx_wl G α h ++ [(α (h.1.1 + 1), zx_enc G α (zx_push h kd) (h.1.1 + 1))] := by
  unfold zx_wl
  show (List.range (h.1.1 + 1)).map _ = _
  rw [List.range_succ, List.map_append]
  congr 1
  apply List.map_congr_left
  intro k hk
  have := List.mem_range.mp hk
  rw [zx_enc_push (by omega)]
theorem zx_ok_push {h : zx_H} {kd : Nat × Nat} (hok : zx_ok h) (hl : kd.2 < 2 ^ 31) : zx_ok (zx_push h kd) := by
  intro k hk
  by_cases he : k = h.1.1 + 1
  · subst he
    simp only [zx_push, if_pos]
    exact ⟨by omega, Nat.le_refl _, hl⟩
  · simp only [zx_push, if_neg he] at hk ⊢
    obtain ⟨a, b, c⟩ := hok k hk
    exact ⟨a, by omega, c⟩
theorem zx_fr_push {α : Nat → Nat} {b : Nat} {h : zx_H} {kd : Nat × Nat} (hf : zx_fr α b h) : zx_fr α (b + 1) (zx_push h kd) := by
  intro k
  have := hf k
  show α (k + 1) + (h.1.1 + 1) = k + (b + 1)
  omega
/-- the world with one more cell, at the next address -/
theorem zx_R_push {D : va_G} {G : zx_G} {α : Nat → Nat} {A : Nat → Prop} {kc : Nat} {h : zx_H} {s : State} {H H1 : Heap} {locs : List Loc} {kd : Nat × Nat} (R : zx_R D G α A true kc h s H locs) (hsz : H.size = s.heap.size + kc) (hl : kd.2 < 2 ^ 31)
    (e1 : va_at D zx_cl (α (h.1.1 + 1), zx_enc G α (zx_push h kd) (h.1.1 + 1)) H1) (z1 : H1.size = H.size + 1) (o1 : ∀ q, q < H.size → H1[q]? = H[q]?) : zx_R D G α A true (kc + 1) (zx_push h kd) s H1 locs := by
  obtain ⟨hK, hA, hP, hD, hS, hok, hfr⟩ := R
  obtain ⟨f1, f2⟩ := hfr rfl
  have ha : α (h.1.1 + 1) = H.size := by have := f1 h.1.1; omega
  have hk : ∀ (k : Nat) (x : Nat × va_E), (zx_wl G α h)[k]? = some x → H1[x.1]? = H[x.1]? := fun k x hx => o1 x.1 ((hP k x hx).lt)
  refine ⟨hK, hA, ?_, ?_, ⟨by have := hS.1; omega, fun x h1 h2 => (o1 x (Nat.lt_of_lt_of_le h1 hS.1)).trans (hS.2.1 x h1 h2), hS.2.2⟩, zx_ok_push hok hl, fun _ => ⟨zx_fr_push f1, ?_⟩⟩
  · rw [zx_wl_push]
    refine (hP.kept hk).app (fun k x hx => ?_)
    have hz : k < 1 := (List.getElem?_eq_some_iff.mp hx).1
    rw [show k = 0 by omega] at hx
    cases hx
    exact e1
  · rw [zx_wl_push, ha]
    exact hD.push hP rfl (hA _ hS.1)
  · show kc + 1 ≤ h.1.1 + 1
    omega
section ZN
variable {l : Launch} {rm : Room} {M : zx_M} {kc ks : Nat} {Z : zx_Zt} {pc : Nat} {L : List (Nat × Value)} {S : List Value} {h : zx_H}
theorem zx_new {idx ci N : Nat} {C : String} {T : u_T} (ty : Nat → FieldType) (hcl : zx_cl[ci]? = some (C, T, N)) (hin : ∀ w ∈ u_ws C T N, w ∈ zx_T) (hty : ∀ k, k < N → parseFieldDescriptor (T k).2.2.1 = some (ty k)) (hft : (zx_ft ci).length = N) (hdf : ∀ j, j < N → defaultValue (ty j) = if (zx_ft ci).getD j false = true then Value.null else .int 0)
    (w1 : Cond.classLink M.1.cls idx C ∈ zx_T) (w2 : Cond.instantiable C N ∈ zx_T) (w3 : Cond.initialized C ∈ zx_T) (h1 : kc + 1 ≤ rm.cells) (h2 : ks + N ≤ rm.slots) (d : decode M.2.1 pc = .ok (.new idx, 3))
    (k : zx_X l rm M true (kc + 1) (ks + N) Z (pc + 3) L (.ref (h.1.1 + 1) :: S) (zx_push h (ci + 5, 0))) : zx_X l rm M true kc ks Z pc L S h := by
  intro D G α A p e s m args below meth c H locs ls C0 R hl T0 hT X
  have hsz : H.size = s.heap.size + kc := zx_size R (by rw [← hT]; exact X.heapSize) rfl
  have hts := C0.2.2.2.2.2.2.1
  have hKn := R.1.1 ci _ hcl
  have f1 := (R.2.2.2.2.2.2 rfl).1
  have ha : α (h.1.1 + 1) = H.size := by have := f1 h.1.1; omega
  refine W.newcK C0.1 C0.2.1 C0.2.2.2.2.2.1 (hts _ w1) (hts _ w2) (hts _ w3) rfl d h1 h2 hKn.2.1 rfl (fun H1 kC hkC e1 z1 o1 => ?_) T0 hT X
  have hk := k D G α A p e s m args below meth c H1 locs ls C0 (zx_R_push R hsz (by decide) ?_ z1 o1) hl
  · rw [← ha]
    exact hk
  · rw [zx_enc_obj (ci := ci) (by simp [zx_push]), ha]
    refine ⟨_, hcl, (u_born ty hts hin hKn hkC e1 hty).to (fun j hj => ?_)⟩
    rw [hdf j hj]
    show _ = (zx_fs _ _ _ _).getD j .null
    rw [List.getD_eq_getElem?_getD, zx_fs_at (by omega)]
    simp [zx_push, zx_nul]
theorem zx_newA {tag n : Nat} {x : Int32} {at0 : ArrayType} (w : Cond.arrayClass (newarray.typeOf at0) ∈ zx_T) (hx : x = nI n) (hn : n < 2 ^ 20) (htag : (at0 = .int ∧ tag = 0) ∨ (at0 = .boolean ∧ tag = 1) ∨ (at0 = .long ∧ tag = 2)) (h1 : kc + 1 ≤ rm.cells) (h2 : ks + n ≤ rm.slots) (d : decode M.2.1 pc = .ok (.newarray at0, 2))
    (k : zx_X l rm M true (kc + 1) (ks + n) Z (pc + 2) L (.ref (h.1.1 + 1) :: S) (zx_push h (tag, n))) : zx_X l rm M true kc ks Z pc L (.int x :: S) h := by
  intro D G α A p e s m args below meth c H locs ls C0 R hl T0 hT X
  have hsz : H.size = s.heap.size + kc := zx_size R (by rw [← hT]; exact X.heapSize) rfl
  have hts := C0.2.2.2.2.2.2.1
  have f1 := (R.2.2.2.2.2.2 rfl).1
  have ha : α (h.1.1 + 1) = H.size := by have := f1 h.1.1; omega
  subst hx
  have hcl : (nI n).toNatClampNeg = n := nI_clamp (by omega)
  refine va_newaK C0.1 C0.2.1 (hts _ w) rfl d rfl (nI_pos (by omega)) hcl ?_ h1 h2 rfl (fun H1 cA e1 z1 o1 hAr hNm => ?_) T0 hT X
  · rcases htag with ⟨rfl, -⟩ | ⟨rfl, -⟩ | ⟨rfl, -⟩ <;> (simp only [newarray.typeOf, componentBytes]; omega)
  have hk := k D G α A p e s m args below meth c H1 locs ls C0 (zx_R_push R hsz (show n < 2 ^ 31 by omega) ?_ z1 o1) hl
  · rw [← ha]
    exact hk
  · rw [ha]
    have hK2 := R.1.2
    rcases htag with ⟨rfl, rfl⟩ | ⟨rfl, rfl⟩ | ⟨rfl, rfl⟩
    · rw [zx_enc_int (n := n) (by simp [zx_push])]
      have hg : cA = G.1 := Option.some.inj (hNm.symm.trans (hK2 0 _ rfl).2)
      subst hg
      show H1[H.size]? = some (vp_cell _ _)
      rw [e1, vp_cell_i]
      simp [zx_push, newarray.typeOf, defaultValue]
    · rw [zx_enc_bool (n := n) (by simp [zx_push])]
      have hg : cA = G.2.1 := Option.some.inj (hNm.symm.trans (hK2 1 _ rfl).2)
      subst hg
      show H1[H.size]? = some (vp_cell _ _)
      rw [e1, vp_cell_i]
      simp [zx_push, newarray.typeOf, defaultValue]
    · rw [zx_enc_long (n := n) (by simp [zx_push])]
      have hg : cA = G.2.2.1 := Option.some.inj (hNm.symm.trans (hK2 2 _ rfl).2)
      subst hg
      show H1[H.size]? = some (vp_cell _ _)
      rw [e1, vp_cell_l]
      simp [zx_push, newarray.typeOf, defaultValue]
theorem zx_newQ {idx n : Nat} {x : Int32} (w1 : Cond.classLink M.1.cls idx zx_CQ ∈ zx_T) (w2 : Cond.arrayOver (.object zx_CQ) ∈ zx_T) (hx : x = nI n) (hn : n < 2 ^ 20) (h1 : kc + 1 ≤ rm.cells) (h2 : ks + n ≤ rm.slots) (d : decode M.2.1 pc = .ok (.anewarray idx, 3))
    (k : zx_X l rm M true (kc + 1) (ks + n) Z (pc + 3) L (.ref (h.1.1 + 1) :: S) (zx_push h (3, n))) : zx_X l rm M true kc ks Z pc L (.int x :: S) h := by
  intro D G α A p e s m args below meth c H locs ls C0 R hl T0 hT X
  have hsz : H.size = s.heap.size + kc := zx_size R (by rw [← hT]; exact X.heapSize) rfl
  have hts := C0.2.2.2.2.2.2.1
  have f1 := (R.2.2.2.2.2.2 rfl).1
  have ha : α (h.1.1 + 1) = H.size := by have := f1 h.1.1; omega
  subst hx
  have hcl : (nI n).toNatClampNeg = n := nI_clamp (by omega)
  refine W.anew C0.1 C0.2.1 C0.2.2.2.2.2.1 (hts _ w1) (hts _ w2) rfl d rfl (nI_pos (by omega)) (by rw [hcl]; omega) h1 (by rw [hcl]; exact h2) (fun cA kA comp g1 g2 g3 g4 => ?_) T0 hT X
  rw [hcl]
  have hk := k D G α A p e s m args below meth c (H.push { cls := cA, slots := Array.replicate n .null, vm := .none }) locs ls C0 (zx_R_push R hsz (show n < 2 ^ 31 by omega) ?_ (by simp) (fun q hq => by rw [Array.getElem?_push, if_neg (Nat.ne_of_lt hq)])) hl
  · rw [← ha]
    exact hk
  · rw [ha, zx_enc_q3 (n := n) (by simp [zx_push])]
    have hK2 := R.1.2 3 _ rfl
    obtain ⟨kA2, comp2, q1, q2, q3, q4⟩ := hK2.2
    have hg : cA = G.2.2.2.1 := Option.some.inj (g1.symm.trans q4)
    subst hg
    show (H.push _)[H.size]? = some (vp_cell _ _)
    rw [Array.getElem?_push_size, vp_cell_q, ← arrV_new]
    congr 2
    simp [arrV_new, zx_push, zx_opt, va_rf]
end ZN
end
