section
-- ===== PART A: goes FIRST, ahead of the names: the tables' words, and 'selects' of the private methods out of them =====
/-- a private method of a class that the tables say can be made, by its rows of tables_1 -/
def lw_okq (q : MethodName × Nat) : Prop := (q.1.cls ≠ "java/lang/invoke/MethodHandle" ∧ q.1.cls ≠ "java/lang/invoke/VarHandle") ∧ Cond.instantiable q.1.cls q.2 ∈ tables_1 ∧ Cond.privateMethod q.1 ∈ tables_1 ∧ Cond.instanceMethod q.1 ∈ tables_1
theorem lw_p0 : lw_okq (⟨"SortedBlocks$BlockReader", "readNumbers", "(LSortedBlocks$Block;)I"⟩, 6) := ⟨⟨by decide +kernel, by decide +kernel⟩, List.mem_of_getElem? (i := 73) (by decide +kernel), List.mem_of_getElem? (i := 396) (by decide +kernel), List.mem_of_getElem? (i := 397) (by decide +kernel)⟩
theorem lw_p1 : lw_okq (⟨"SortedBlocks$BlockReader", "readMap", "(LSortedBlocks$Block;)I"⟩, 6) := ⟨⟨by decide +kernel, by decide +kernel⟩, List.mem_of_getElem? (i := 73) (by decide +kernel), List.mem_of_getElem? (i := 408) (by decide +kernel), List.mem_of_getElem? (i := 409) (by decide +kernel)⟩
theorem lw_p2 : lw_okq (⟨"SortedBlocks$BlockReader", "readCounts", "(LSortedBlocks$Block;)I"⟩, 6) := ⟨⟨by decide +kernel, by decide +kernel⟩, List.mem_of_getElem? (i := 73) (by decide +kernel), List.mem_of_getElem? (i := 422) (by decide +kernel), List.mem_of_getElem? (i := 423) (by decide +kernel)⟩
theorem lw_p3 : lw_okq (⟨"SortedBlocks$BlockReader", "readPicks", "(LSortedBlocks$Block;)I"⟩, 6) := ⟨⟨by decide +kernel, by decide +kernel⟩, List.mem_of_getElem? (i := 73) (by decide +kernel), List.mem_of_getElem? (i := 426) (by decide +kernel), List.mem_of_getElem? (i := 427) (by decide +kernel)⟩
theorem lw_p4 : lw_okq (⟨"SortedBlocks$BlockReader", "readPick", "(I)I"⟩, 6) := ⟨⟨by decide +kernel, by decide +kernel⟩, List.mem_of_getElem? (i := 73) (by decide +kernel), List.mem_of_getElem? (i := 437) (by decide +kernel), List.mem_of_getElem? (i := 438) (by decide +kernel)⟩
theorem lw_p5 : lw_okq (⟨"SortedBlocks$BlockReader", "readTables", "(LSortedBlocks$Block;)I"⟩, 6) := ⟨⟨by decide +kernel, by decide +kernel⟩, List.mem_of_getElem? (i := 73) (by decide +kernel), List.mem_of_getElem? (i := 450) (by decide +kernel), List.mem_of_getElem? (i := 451) (by decide +kernel)⟩
theorem lw_p6 : lw_okq (⟨"SortedBlocks$BlockReader", "readLengths", "([II)I"⟩, 6) := ⟨⟨by decide +kernel, by decide +kernel⟩, List.mem_of_getElem? (i := 73) (by decide +kernel), List.mem_of_getElem? (i := 458) (by decide +kernel), List.mem_of_getElem? (i := 459) (by decide +kernel)⟩
theorem lw_p7 : lw_okq (⟨"SortedBlocks$BlockReader", "readLength", "(I)I"⟩, 6) := ⟨⟨by decide +kernel, by decide +kernel⟩, List.mem_of_getElem? (i := 73) (by decide +kernel), List.mem_of_getElem? (i := 465) (by decide +kernel), List.mem_of_getElem? (i := 466) (by decide +kernel)⟩
theorem lw_p8 : lw_okq (⟨"SortedBlocks$Codes", "countLengths", "([II)V"⟩, 5) := ⟨⟨by decide +kernel, by decide +kernel⟩, List.mem_of_getElem? (i := 93) (by decide +kernel), List.mem_of_getElem? (i := 474) (by decide +kernel), List.mem_of_getElem? (i := 475) (by decide +kernel)⟩
theorem lw_p9 : lw_okq (⟨"SortedBlocks$Codes", "placeLengths", "()V"⟩, 5) := ⟨⟨by decide +kernel, by decide +kernel⟩, List.mem_of_getElem? (i := 93) (by decide +kernel), List.mem_of_getElem? (i := 482) (by decide +kernel), List.mem_of_getElem? (i := 483) (by decide +kernel)⟩
theorem lw_p10 : lw_okq (⟨"SortedBlocks$BlockReader", "readSymbols", "(LSortedBlocks$Block;I)I"⟩, 6) := ⟨⟨by decide +kernel, by decide +kernel⟩, List.mem_of_getElem? (i := 73) (by decide +kernel), List.mem_of_getElem? (i := 489) (by decide +kernel), List.mem_of_getElem? (i := 490) (by decide +kernel)⟩
theorem lw_p11 : lw_okq (⟨"SortedBlocks$BlockReader", "readSymbol", "(LSortedBlocks$Codes;)I"⟩, 6) := ⟨⟨by decide +kernel, by decide +kernel⟩, List.mem_of_getElem? (i := 73) (by decide +kernel), List.mem_of_getElem? (i := 501) (by decide +kernel), List.mem_of_getElem? (i := 502) (by decide +kernel)⟩
theorem lw_p12 : lw_okq (⟨"SortedBlocks$BlockReader", "addBytes", "(LSortedBlocks$Block;II)Z"⟩, 6) := ⟨⟨by decide +kernel, by decide +kernel⟩, List.mem_of_getElem? (i := 73) (by decide +kernel), List.mem_of_getElem? (i := 517) (by decide +kernel), List.mem_of_getElem? (i := 518) (by decide +kernel)⟩
theorem lw_p13 : lw_okq (⟨"SortedBlocks$BlockReader", "unsort", "(LSortedBlocks$Block;)I"⟩, 6) := ⟨⟨by decide +kernel, by decide +kernel⟩, List.mem_of_getElem? (i := 73) (by decide +kernel), List.mem_of_getElem? (i := 525) (by decide +kernel), List.mem_of_getElem? (i := 526) (by decide +kernel)⟩
theorem lw_p14 : lw_okq (⟨"SortedBlocks$BlockReader", "findFollowers", "(LSortedBlocks$Block;)V"⟩, 6) := ⟨⟨by decide +kernel, by decide +kernel⟩, List.mem_of_getElem? (i := 73) (by decide +kernel), List.mem_of_getElem? (i := 529) (by decide +kernel), List.mem_of_getElem? (i := 530) (by decide +kernel)⟩
theorem lw_p15 : lw_okq (⟨"SortedBlocks", "tellNext", "()V"⟩, 12) := ⟨⟨by decide +kernel, by decide +kernel⟩, List.mem_of_getElem? (i := 25) (by decide +kernel), List.mem_of_getElem? (i := 550) (by decide +kernel), List.mem_of_getElem? (i := 551) (by decide +kernel)⟩
def lw_privs_1 : List (MethodName × Nat) := [(⟨"SortedBlocks$BlockReader", "readNumbers", "(LSortedBlocks$Block;)I"⟩, 6), (⟨"SortedBlocks$BlockReader", "readMap", "(LSortedBlocks$Block;)I"⟩, 6), (⟨"SortedBlocks$BlockReader", "readCounts", "(LSortedBlocks$Block;)I"⟩, 6), (⟨"SortedBlocks$BlockReader", "readPicks", "(LSortedBlocks$Block;)I"⟩, 6), (⟨"SortedBlocks$BlockReader", "readPick", "(I)I"⟩, 6), (⟨"SortedBlocks$BlockReader", "readTables", "(LSortedBlocks$Block;)I"⟩, 6), (⟨"SortedBlocks$BlockReader", "readLengths", "([II)I"⟩, 6), (⟨"SortedBlocks$BlockReader", "readLength", "(I)I"⟩, 6), (⟨"SortedBlocks$Codes", "countLengths", "([II)V"⟩, 5), (⟨"SortedBlocks$Codes", "placeLengths", "()V"⟩, 5), (⟨"SortedBlocks$BlockReader", "readSymbols", "(LSortedBlocks$Block;I)I"⟩, 6), (⟨"SortedBlocks$BlockReader", "readSymbol", "(LSortedBlocks$Codes;)I"⟩, 6), (⟨"SortedBlocks$BlockReader", "addBytes", "(LSortedBlocks$Block;II)Z"⟩, 6), (⟨"SortedBlocks$BlockReader", "unsort", "(LSortedBlocks$Block;)I"⟩, 6), (⟨"SortedBlocks$BlockReader", "findFollowers", "(LSortedBlocks$Block;)V"⟩, 6), (⟨"SortedBlocks", "tellNext", "()V"⟩, 12)]
theorem lw_r1 : ∀ q ∈ lw_privs_1, lw_okq q := List.forall_mem_cons.mpr ⟨lw_p0, List.forall_mem_cons.mpr ⟨lw_p1, List.forall_mem_cons.mpr ⟨lw_p2, List.forall_mem_cons.mpr ⟨lw_p3, List.forall_mem_cons.mpr ⟨lw_p4, List.forall_mem_cons.mpr ⟨lw_p5, List.forall_mem_cons.mpr ⟨lw_p6, List.forall_mem_cons.mpr ⟨lw_p7, List.forall_mem_cons.mpr ⟨lw_p8, List.forall_mem_cons.mpr ⟨lw_p9, List.forall_mem_cons.mpr ⟨lw_p10, List.forall_mem_cons.mpr ⟨lw_p11, List.forall_mem_cons.mpr ⟨lw_p12, List.forall_mem_cons.mpr ⟨lw_p13, List.forall_mem_cons.mpr ⟨lw_p14, List.forall_mem_cons.mpr ⟨lw_p15, fun _ h => absurd h List.not_mem_nil⟩⟩⟩⟩⟩⟩⟩⟩⟩⟩⟩⟩⟩⟩⟩⟩
theorem lw_p16 : lw_okq (⟨"SortedBlocks", "takeFresh", "()V"⟩, 12) := ⟨⟨by decide +kernel, by decide +kernel⟩, List.mem_of_getElem? (i := 25) (by decide +kernel), List.mem_of_getElem? (i := 554) (by decide +kernel), List.mem_of_getElem? (i := 555) (by decide +kernel)⟩
theorem lw_p17 : lw_okq (⟨"java/lang/Throwable", "fillInStackTrace", "(I)Ljava/lang/Throwable;"⟩, 6) := ⟨⟨by decide +kernel, by decide +kernel⟩, List.mem_of_getElem? (i := 648) (by decide +kernel), List.mem_of_getElem? (i := 646) (by decide +kernel), List.mem_of_getElem? (i := 647) (by decide +kernel)⟩
theorem lw_p18 : lw_okq (⟨"SortedBlocks$BitWriter", "putBit", "(I)V"⟩, 3) := ⟨⟨by decide +kernel, by decide +kernel⟩, List.mem_of_getElem? (i := 205) (by decide +kernel), List.mem_of_getElem? (i := 755) (by decide +kernel), List.mem_of_getElem? (i := 756) (by decide +kernel)⟩
theorem lw_p19 : lw_okq (⟨"SortedBlocks$BlockMaker", "sortRotations", "(LSortedBlocks$Block;)V"⟩, 4) := ⟨⟨by decide +kernel, by decide +kernel⟩, List.mem_of_getElem? (i := 134) (by decide +kernel), List.mem_of_getElem? (i := 773) (by decide +kernel), List.mem_of_getElem? (i := 774) (by decide +kernel)⟩
theorem lw_p20 : lw_okq (⟨"SortedBlocks$BlockMaker", "readOrder", "(LSortedBlocks$Block;)V"⟩, 4) := ⟨⟨by decide +kernel, by decide +kernel⟩, List.mem_of_getElem? (i := 134) (by decide +kernel), List.mem_of_getElem? (i := 781) (by decide +kernel), List.mem_of_getElem? (i := 782) (by decide +kernel)⟩
theorem lw_p21 : lw_okq (⟨"SortedBlocks$BlockMaker", "listKinds", "(LSortedBlocks$Block;)V"⟩, 4) := ⟨⟨by decide +kernel, by decide +kernel⟩, List.mem_of_getElem? (i := 134) (by decide +kernel), List.mem_of_getElem? (i := 785) (by decide +kernel), List.mem_of_getElem? (i := 786) (by decide +kernel)⟩
theorem lw_p22 : lw_okq (⟨"SortedBlocks$BlockMaker", "findSymbols", "(LSortedBlocks$Block;)V"⟩, 4) := ⟨⟨by decide +kernel, by decide +kernel⟩, List.mem_of_getElem? (i := 134) (by decide +kernel), List.mem_of_getElem? (i := 791) (by decide +kernel), List.mem_of_getElem? (i := 792) (by decide +kernel)⟩
theorem lw_p23 : lw_okq (⟨"SortedBlocks$Picker", "weigh", "(LSortedBlocks$Block;I)V"⟩, 2) := ⟨⟨by decide +kernel, by decide +kernel⟩, List.mem_of_getElem? (i := 142) (by decide +kernel), List.mem_of_getElem? (i := 810) (by decide +kernel), List.mem_of_getElem? (i := 811) (by decide +kernel)⟩
theorem lw_p24 : lw_okq (⟨"SortedBlocks$Trees", "sortSymbols", "()V"⟩, 7) := ⟨⟨by decide +kernel, by decide +kernel⟩, List.mem_of_getElem? (i := 148) (by decide +kernel), List.mem_of_getElem? (i := 826) (by decide +kernel), List.mem_of_getElem? (i := 827) (by decide +kernel)⟩
theorem lw_p25 : lw_okq (⟨"SortedBlocks$Trees", "joinTrees", "()V"⟩, 7) := ⟨⟨by decide +kernel, by decide +kernel⟩, List.mem_of_getElem? (i := 148) (by decide +kernel), List.mem_of_getElem? (i := 830) (by decide +kernel), List.mem_of_getElem? (i := 831) (by decide +kernel)⟩
theorem lw_p26 : lw_okq (⟨"SortedBlocks$Trees", "takeFirst", "(I)I"⟩, 7) := ⟨⟨by decide +kernel, by decide +kernel⟩, List.mem_of_getElem? (i := 148) (by decide +kernel), List.mem_of_getElem? (i := 834) (by decide +kernel), List.mem_of_getElem? (i := 835) (by decide +kernel)⟩
theorem lw_p27 : lw_okq (⟨"SortedBlocks$Trees", "measureDepths", "()V"⟩, 7) := ⟨⟨by decide +kernel, by decide +kernel⟩, List.mem_of_getElem? (i := 148) (by decide +kernel), List.mem_of_getElem? (i := 838) (by decide +kernel), List.mem_of_getElem? (i := 839) (by decide +kernel)⟩
theorem lw_p28 : lw_okq (⟨"SortedBlocks$Picker", "cheapest", "(LSortedBlocks$Block;I)I"⟩, 2) := ⟨⟨by decide +kernel, by decide +kernel⟩, List.mem_of_getElem? (i := 142) (by decide +kernel), List.mem_of_getElem? (i := 842) (by decide +kernel), List.mem_of_getElem? (i := 843) (by decide +kernel)⟩
theorem lw_p29 : lw_okq (⟨"SortedBlocks$Picker", "cost", "(LSortedBlocks$Block;II)I"⟩, 2) := ⟨⟨by decide +kernel, by decide +kernel⟩, List.mem_of_getElem? (i := 142) (by decide +kernel), List.mem_of_getElem? (i := 846) (by decide +kernel), List.mem_of_getElem? (i := 847) (by decide +kernel)⟩
theorem lw_p30 : lw_okq (⟨"SortedBlocks$BlockWriter", "writeMap", "(LSortedBlocks$Block;)V"⟩, 4) := ⟨⟨by decide +kernel, by decide +kernel⟩, List.mem_of_getElem? (i := 196) (by decide +kernel), List.mem_of_getElem? (i := 856) (by decide +kernel), List.mem_of_getElem? (i := 857) (by decide +kernel)⟩
theorem lw_p31 : lw_okq (⟨"SortedBlocks$BlockWriter", "writePicks", "(LSortedBlocks$Block;)V"⟩, 4) := ⟨⟨by decide +kernel, by decide +kernel⟩, List.mem_of_getElem? (i := 196) (by decide +kernel), List.mem_of_getElem? (i := 862) (by decide +kernel), List.mem_of_getElem? (i := 863) (by decide +kernel)⟩
def lw_privs_2 : List (MethodName × Nat) := [(⟨"SortedBlocks", "takeFresh", "()V"⟩, 12), (⟨"java/lang/Throwable", "fillInStackTrace", "(I)Ljava/lang/Throwable;"⟩, 6), (⟨"SortedBlocks$BitWriter", "putBit", "(I)V"⟩, 3), (⟨"SortedBlocks$BlockMaker", "sortRotations", "(LSortedBlocks$Block;)V"⟩, 4), (⟨"SortedBlocks$BlockMaker", "readOrder", "(LSortedBlocks$Block;)V"⟩, 4), (⟨"SortedBlocks$BlockMaker", "listKinds", "(LSortedBlocks$Block;)V"⟩, 4), (⟨"SortedBlocks$BlockMaker", "findSymbols", "(LSortedBlocks$Block;)V"⟩, 4), (⟨"SortedBlocks$Picker", "weigh", "(LSortedBlocks$Block;I)V"⟩, 2), (⟨"SortedBlocks$Trees", "sortSymbols", "()V"⟩, 7), (⟨"SortedBlocks$Trees", "joinTrees", "()V"⟩, 7), (⟨"SortedBlocks$Trees", "takeFirst", "(I)I"⟩, 7), (⟨"SortedBlocks$Trees", "measureDepths", "()V"⟩, 7), (⟨"SortedBlocks$Picker", "cheapest", "(LSortedBlocks$Block;I)I"⟩, 2), (⟨"SortedBlocks$Picker", "cost", "(LSortedBlocks$Block;II)I"⟩, 2), (⟨"SortedBlocks$BlockWriter", "writeMap", "(LSortedBlocks$Block;)V"⟩, 4), (⟨"SortedBlocks$BlockWriter", "writePicks", "(LSortedBlocks$Block;)V"⟩, 4)]
theorem lw_r2 : ∀ q ∈ lw_privs_2, lw_okq q := List.forall_mem_cons.mpr ⟨lw_p16, List.forall_mem_cons.mpr ⟨lw_p17, List.forall_mem_cons.mpr ⟨lw_p18, List.forall_mem_cons.mpr ⟨lw_p19, List.forall_mem_cons.mpr ⟨lw_p20, List.forall_mem_cons.mpr ⟨lw_p21, List.forall_mem_cons.mpr ⟨lw_p22, List.forall_mem_cons.mpr ⟨lw_p23, List.forall_mem_cons.mpr ⟨lw_p24, List.forall_mem_cons.mpr ⟨lw_p25, List.forall_mem_cons.mpr ⟨lw_p26, List.forall_mem_cons.mpr ⟨lw_p27, List.forall_mem_cons.mpr ⟨lw_p28, List.forall_mem_cons.mpr ⟨lw_p29, List.forall_mem_cons.mpr ⟨lw_p30, List.forall_mem_cons.mpr ⟨lw_p31, fun _ h => absurd h List.not_mem_nil⟩⟩⟩⟩⟩⟩⟩⟩⟩⟩⟩⟩⟩⟩⟩⟩
theorem lw_p32 : lw_okq (⟨"SortedBlocks$BlockWriter", "writeLengths", "([II)V"⟩, 4) := ⟨⟨by decide +kernel, by decide +kernel⟩, List.mem_of_getElem? (i := 196) (by decide +kernel), List.mem_of_getElem? (i := 869) (by decide +kernel), List.mem_of_getElem? (i := 870) (by decide +kernel)⟩
theorem lw_p33 : lw_okq (⟨"SortedBlocks$BlockWriter", "writeSymbols", "(LSortedBlocks$Block;)V"⟩, 4) := ⟨⟨by decide +kernel, by decide +kernel⟩, List.mem_of_getElem? (i := 196) (by decide +kernel), List.mem_of_getElem? (i := 877) (by decide +kernel), List.mem_of_getElem? (i := 878) (by decide +kernel)⟩
theorem lw_p34 : lw_okq (⟨"SortedBlocks", "readStream", "()I"⟩, 12) := ⟨⟨by decide +kernel, by decide +kernel⟩, List.mem_of_getElem? (i := 25) (by decide +kernel), List.mem_of_getElem? (i := 908) (by decide +kernel), List.mem_of_getElem? (i := 909) (by decide +kernel)⟩
theorem lw_p35 : lw_okq (⟨"SortedBlocks", "readHead", "()I"⟩, 12) := ⟨⟨by decide +kernel, by decide +kernel⟩, List.mem_of_getElem? (i := 25) (by decide +kernel), List.mem_of_getElem? (i := 912) (by decide +kernel), List.mem_of_getElem? (i := 913) (by decide +kernel)⟩
theorem lw_p36 : lw_okq (⟨"SortedBlocks", "readTotal", "(I)I"⟩, 12) := ⟨⟨by decide +kernel, by decide +kernel⟩, List.mem_of_getElem? (i := 25) (by decide +kernel), List.mem_of_getElem? (i := 919) (by decide +kernel), List.mem_of_getElem? (i := 920) (by decide +kernel)⟩
theorem lw_p37 : lw_okq (⟨"SortedBlocksModel", "write", "(II)V"⟩, 46) := ⟨⟨by decide +kernel, by decide +kernel⟩, List.mem_of_getElem? (i := 955) (by decide +kernel), List.mem_of_getElem? (i := 1126) (by decide +kernel), List.mem_of_getElem? (i := 1127) (by decide +kernel)⟩
theorem lw_p38 : lw_okq (⟨"SortedBlocksModel", "packBlock", "(II)I"⟩, 46) := ⟨⟨by decide +kernel, by decide +kernel⟩, List.mem_of_getElem? (i := 955) (by decide +kernel), List.mem_of_getElem? (i := 1130) (by decide +kernel), List.mem_of_getElem? (i := 1131) (by decide +kernel)⟩
theorem lw_p39 : lw_okq (⟨"SortedBlocksModel", "shorten", "(II)I"⟩, 46) := ⟨⟨by decide +kernel, by decide +kernel⟩, List.mem_of_getElem? (i := 955) (by decide +kernel), List.mem_of_getElem? (i := 1134) (by decide +kernel), List.mem_of_getElem? (i := 1135) (by decide +kernel)⟩
theorem lw_p40 : lw_okq (⟨"SortedBlocksModel", "checkOf", "()I"⟩, 46) := ⟨⟨by decide +kernel, by decide +kernel⟩, List.mem_of_getElem? (i := 955) (by decide +kernel), List.mem_of_getElem? (i := 1138) (by decide +kernel), List.mem_of_getElem? (i := 1139) (by decide +kernel)⟩
theorem lw_p41 : lw_okq (⟨"SortedBlocksModel", "sort", "()V"⟩, 46) := ⟨⟨by decide +kernel, by decide +kernel⟩, List.mem_of_getElem? (i := 955) (by decide +kernel), List.mem_of_getElem? (i := 1147) (by decide +kernel), List.mem_of_getElem? (i := 1148) (by decide +kernel)⟩
theorem lw_p42 : lw_okq (⟨"SortedBlocksModel", "before", "(II)Z"⟩, 46) := ⟨⟨by decide +kernel, by decide +kernel⟩, List.mem_of_getElem? (i := 955) (by decide +kernel), List.mem_of_getElem? (i := 1151) (by decide +kernel), List.mem_of_getElem? (i := 1152) (by decide +kernel)⟩
theorem lw_p43 : lw_okq (⟨"SortedBlocksModel", "makeSymbols", "()V"⟩, 46) := ⟨⟨by decide +kernel, by decide +kernel⟩, List.mem_of_getElem? (i := 955) (by decide +kernel), List.mem_of_getElem? (i := 1155) (by decide +kernel), List.mem_of_getElem? (i := 1156) (by decide +kernel)⟩
theorem lw_p44 : lw_okq (⟨"SortedBlocksModel", "listUsed", "()V"⟩, 46) := ⟨⟨by decide +kernel, by decide +kernel⟩, List.mem_of_getElem? (i := 955) (by decide +kernel), List.mem_of_getElem? (i := 1159) (by decide +kernel), List.mem_of_getElem? (i := 1160) (by decide +kernel)⟩
theorem lw_p45 : lw_okq (⟨"SortedBlocksModel", "toFront", "(I)I"⟩, 46) := ⟨⟨by decide +kernel, by decide +kernel⟩, List.mem_of_getElem? (i := 955) (by decide +kernel), List.mem_of_getElem? (i := 1163) (by decide +kernel), List.mem_of_getElem? (i := 1164) (by decide +kernel)⟩
theorem lw_p46 : lw_okq (⟨"SortedBlocksModel", "addRun", "(I)V"⟩, 46) := ⟨⟨by decide +kernel, by decide +kernel⟩, List.mem_of_getElem? (i := 955) (by decide +kernel), List.mem_of_getElem? (i := 1167) (by decide +kernel), List.mem_of_getElem? (i := 1168) (by decide +kernel)⟩
theorem lw_p47 : lw_okq (⟨"SortedBlocksModel", "addSymbol", "(I)V"⟩, 46) := ⟨⟨by decide +kernel, by decide +kernel⟩, List.mem_of_getElem? (i := 955) (by decide +kernel), List.mem_of_getElem? (i := 1171) (by decide +kernel), List.mem_of_getElem? (i := 1172) (by decide +kernel)⟩
def lw_privs_3 : List (MethodName × Nat) := [(⟨"SortedBlocks$BlockWriter", "writeLengths", "([II)V"⟩, 4), (⟨"SortedBlocks$BlockWriter", "writeSymbols", "(LSortedBlocks$Block;)V"⟩, 4), (⟨"SortedBlocks", "readStream", "()I"⟩, 12), (⟨"SortedBlocks", "readHead", "()I"⟩, 12), (⟨"SortedBlocks", "readTotal", "(I)I"⟩, 12), (⟨"SortedBlocksModel", "write", "(II)V"⟩, 46), (⟨"SortedBlocksModel", "packBlock", "(II)I"⟩, 46), (⟨"SortedBlocksModel", "shorten", "(II)I"⟩, 46), (⟨"SortedBlocksModel", "checkOf", "()I"⟩, 46), (⟨"SortedBlocksModel", "sort", "()V"⟩, 46), (⟨"SortedBlocksModel", "before", "(II)Z"⟩, 46), (⟨"SortedBlocksModel", "makeSymbols", "()V"⟩, 46), (⟨"SortedBlocksModel", "listUsed", "()V"⟩, 46), (⟨"SortedBlocksModel", "toFront", "(I)I"⟩, 46), (⟨"SortedBlocksModel", "addRun", "(I)V"⟩, 46), (⟨"SortedBlocksModel", "addSymbol", "(I)V"⟩, 46)]
theorem lw_r3 : ∀ q ∈ lw_privs_3, lw_okq q := List.forall_mem_cons.mpr ⟨lw_p32, List.forall_mem_cons.mpr ⟨lw_p33, List.forall_mem_cons.mpr ⟨lw_p34, List.forall_mem_cons.mpr ⟨lw_p35, List.forall_mem_cons.mpr ⟨lw_p36, List.forall_mem_cons.mpr ⟨lw_p37, List.forall_mem_cons.mpr ⟨lw_p38, List.forall_mem_cons.mpr ⟨lw_p39, List.forall_mem_cons.mpr ⟨lw_p40, List.forall_mem_cons.mpr ⟨lw_p41, List.forall_mem_cons.mpr ⟨lw_p42, List.forall_mem_cons.mpr ⟨lw_p43, List.forall_mem_cons.mpr ⟨lw_p44, List.forall_mem_cons.mpr ⟨lw_p45, List.forall_mem_cons.mpr ⟨lw_p46, List.forall_mem_cons.mpr ⟨lw_p47, fun _ h => absurd h List.not_mem_nil⟩⟩⟩⟩⟩⟩⟩⟩⟩⟩⟩⟩⟩⟩⟩⟩
theorem lw_p48 : lw_okq (⟨"SortedBlocksModel", "pick", "()V"⟩, 46) := ⟨⟨by decide +kernel, by decide +kernel⟩, List.mem_of_getElem? (i := 955) (by decide +kernel), List.mem_of_getElem? (i := 1175) (by decide +kernel), List.mem_of_getElem? (i := 1176) (by decide +kernel)⟩
theorem lw_p49 : lw_okq (⟨"SortedBlocksModel", "makeLengths", "(I)V"⟩, 46) := ⟨⟨by decide +kernel, by decide +kernel⟩, List.mem_of_getElem? (i := 955) (by decide +kernel), List.mem_of_getElem? (i := 1179) (by decide +kernel), List.mem_of_getElem? (i := 1180) (by decide +kernel)⟩
theorem lw_p50 : lw_okq (⟨"SortedBlocksModel", "firstTree", "(II)I"⟩, 46) := ⟨⟨by decide +kernel, by decide +kernel⟩, List.mem_of_getElem? (i := 955) (by decide +kernel), List.mem_of_getElem? (i := 1183) (by decide +kernel), List.mem_of_getElem? (i := 1184) (by decide +kernel)⟩
theorem lw_p51 : lw_okq (⟨"SortedBlocksModel", "costOf", "(II)I"⟩, 46) := ⟨⟨by decide +kernel, by decide +kernel⟩, List.mem_of_getElem? (i := 955) (by decide +kernel), List.mem_of_getElem? (i := 1187) (by decide +kernel), List.mem_of_getElem? (i := 1188) (by decide +kernel)⟩
theorem lw_p52 : lw_okq (⟨"SortedBlocksModel", "makeCodes", "(I)V"⟩, 46) := ⟨⟨by decide +kernel, by decide +kernel⟩, List.mem_of_getElem? (i := 955) (by decide +kernel), List.mem_of_getElem? (i := 1191) (by decide +kernel), List.mem_of_getElem? (i := 1192) (by decide +kernel)⟩
theorem lw_p53 : lw_okq (⟨"SortedBlocksModel", "writeBlock", "()V"⟩, 46) := ⟨⟨by decide +kernel, by decide +kernel⟩, List.mem_of_getElem? (i := 955) (by decide +kernel), List.mem_of_getElem? (i := 1195) (by decide +kernel), List.mem_of_getElem? (i := 1196) (by decide +kernel)⟩
theorem lw_p54 : lw_okq (⟨"SortedBlocksModel", "writeMaps", "()V"⟩, 46) := ⟨⟨by decide +kernel, by decide +kernel⟩, List.mem_of_getElem? (i := 955) (by decide +kernel), List.mem_of_getElem? (i := 1200) (by decide +kernel), List.mem_of_getElem? (i := 1201) (by decide +kernel)⟩
theorem lw_p55 : lw_okq (⟨"SortedBlocksModel", "mapOf", "(II)I"⟩, 46) := ⟨⟨by decide +kernel, by decide +kernel⟩, List.mem_of_getElem? (i := 955) (by decide +kernel), List.mem_of_getElem? (i := 1204) (by decide +kernel), List.mem_of_getElem? (i := 1205) (by decide +kernel)⟩
theorem lw_p56 : lw_okq (⟨"SortedBlocksModel", "writePicks", "()V"⟩, 46) := ⟨⟨by decide +kernel, by decide +kernel⟩, List.mem_of_getElem? (i := 955) (by decide +kernel), List.mem_of_getElem? (i := 1208) (by decide +kernel), List.mem_of_getElem? (i := 1209) (by decide +kernel)⟩
theorem lw_p57 : lw_okq (⟨"SortedBlocksModel", "beginOrder", "()V"⟩, 46) := ⟨⟨by decide +kernel, by decide +kernel⟩, List.mem_of_getElem? (i := 955) (by decide +kernel), List.mem_of_getElem? (i := 1212) (by decide +kernel), List.mem_of_getElem? (i := 1213) (by decide +kernel)⟩
theorem lw_p58 : lw_okq (⟨"SortedBlocksModel", "orderFront", "(I)I"⟩, 46) := ⟨⟨by decide +kernel, by decide +kernel⟩, List.mem_of_getElem? (i := 955) (by decide +kernel), List.mem_of_getElem? (i := 1216) (by decide +kernel), List.mem_of_getElem? (i := 1217) (by decide +kernel)⟩
theorem lw_p59 : lw_okq (⟨"SortedBlocksModel", "writeTable", "(I)V"⟩, 46) := ⟨⟨by decide +kernel, by decide +kernel⟩, List.mem_of_getElem? (i := 955) (by decide +kernel), List.mem_of_getElem? (i := 1220) (by decide +kernel), List.mem_of_getElem? (i := 1221) (by decide +kernel)⟩
theorem lw_p60 : lw_okq (⟨"SortedBlocksModel", "remember", "()V"⟩, 46) := ⟨⟨by decide +kernel, by decide +kernel⟩, List.mem_of_getElem? (i := 955) (by decide +kernel), List.mem_of_getElem? (i := 1227) (by decide +kernel), List.mem_of_getElem? (i := 1228) (by decide +kernel)⟩
theorem lw_p61 : lw_okq (⟨"SortedBlocksModel", "takeOver", "()V"⟩, 46) := ⟨⟨by decide +kernel, by decide +kernel⟩, List.mem_of_getElem? (i := 955) (by decide +kernel), List.mem_of_getElem? (i := 1232) (by decide +kernel), List.mem_of_getElem? (i := 1233) (by decide +kernel)⟩
theorem lw_p62 : lw_okq (⟨"SortedBlocksModel", "readStream", "()I"⟩, 46) := ⟨⟨by decide +kernel, by decide +kernel⟩, List.mem_of_getElem? (i := 955) (by decide +kernel), List.mem_of_getElem? (i := 1240) (by decide +kernel), List.mem_of_getElem? (i := 1241) (by decide +kernel)⟩
theorem lw_p63 : lw_okq (⟨"SortedBlocksModel", "take", "(II)I"⟩, 46) := ⟨⟨by decide +kernel, by decide +kernel⟩, List.mem_of_getElem? (i := 955) (by decide +kernel), List.mem_of_getElem? (i := 1244) (by decide +kernel), List.mem_of_getElem? (i := 1245) (by decide +kernel)⟩
def lw_privs_4 : List (MethodName × Nat) := [(⟨"SortedBlocksModel", "pick", "()V"⟩, 46), (⟨"SortedBlocksModel", "makeLengths", "(I)V"⟩, 46), (⟨"SortedBlocksModel", "firstTree", "(II)I"⟩, 46), (⟨"SortedBlocksModel", "costOf", "(II)I"⟩, 46), (⟨"SortedBlocksModel", "makeCodes", "(I)V"⟩, 46), (⟨"SortedBlocksModel", "writeBlock", "()V"⟩, 46), (⟨"SortedBlocksModel", "writeMaps", "()V"⟩, 46), (⟨"SortedBlocksModel", "mapOf", "(II)I"⟩, 46), (⟨"SortedBlocksModel", "writePicks", "()V"⟩, 46), (⟨"SortedBlocksModel", "beginOrder", "()V"⟩, 46), (⟨"SortedBlocksModel", "orderFront", "(I)I"⟩, 46), (⟨"SortedBlocksModel", "writeTable", "(I)V"⟩, 46), (⟨"SortedBlocksModel", "remember", "()V"⟩, 46), (⟨"SortedBlocksModel", "takeOver", "()V"⟩, 46), (⟨"SortedBlocksModel", "readStream", "()I"⟩, 46), (⟨"SortedBlocksModel", "take", "(II)I"⟩, 46)]
theorem lw_r4 : ∀ q ∈ lw_privs_4, lw_okq q := List.forall_mem_cons.mpr ⟨lw_p48, List.forall_mem_cons.mpr ⟨lw_p49, List.forall_mem_cons.mpr ⟨lw_p50, List.forall_mem_cons.mpr ⟨lw_p51, List.forall_mem_cons.mpr ⟨lw_p52, List.forall_mem_cons.mpr ⟨lw_p53, List.forall_mem_cons.mpr ⟨lw_p54, List.forall_mem_cons.mpr ⟨lw_p55, List.forall_mem_cons.mpr ⟨lw_p56, List.forall_mem_cons.mpr ⟨lw_p57, List.forall_mem_cons.mpr ⟨lw_p58, List.forall_mem_cons.mpr ⟨lw_p59, List.forall_mem_cons.mpr ⟨lw_p60, List.forall_mem_cons.mpr ⟨lw_p61, List.forall_mem_cons.mpr ⟨lw_p62, List.forall_mem_cons.mpr ⟨lw_p63, fun _ h => absurd h List.not_mem_nil⟩⟩⟩⟩⟩⟩⟩⟩⟩⟩⟩⟩⟩⟩⟩⟩
theorem lw_p64 : lw_okq (⟨"SortedBlocksModel", "fail", "(II)V"⟩, 46) := ⟨⟨by decide +kernel, by decide +kernel⟩, List.mem_of_getElem? (i := 955) (by decide +kernel), List.mem_of_getElem? (i := 1248) (by decide +kernel), List.mem_of_getElem? (i := 1249) (by decide +kernel)⟩
theorem lw_p65 : lw_okq (⟨"SortedBlocksModel", "failIf", "(ZII)V"⟩, 46) := ⟨⟨by decide +kernel, by decide +kernel⟩, List.mem_of_getElem? (i := 955) (by decide +kernel), List.mem_of_getElem? (i := 1252) (by decide +kernel), List.mem_of_getElem? (i := 1253) (by decide +kernel)⟩
theorem lw_p66 : lw_okq (⟨"SortedBlocksModel", "readBlock", "(I)V"⟩, 46) := ⟨⟨by decide +kernel, by decide +kernel⟩, List.mem_of_getElem? (i := 955) (by decide +kernel), List.mem_of_getElem? (i := 1256) (by decide +kernel), List.mem_of_getElem? (i := 1257) (by decide +kernel)⟩
theorem lw_p67 : lw_okq (⟨"SortedBlocksModel", "readMaps", "()V"⟩, 46) := ⟨⟨by decide +kernel, by decide +kernel⟩, List.mem_of_getElem? (i := 955) (by decide +kernel), List.mem_of_getElem? (i := 1260) (by decide +kernel), List.mem_of_getElem? (i := 1261) (by decide +kernel)⟩
theorem lw_p68 : lw_okq (⟨"SortedBlocksModel", "readPicks", "()V"⟩, 46) := ⟨⟨by decide +kernel, by decide +kernel⟩, List.mem_of_getElem? (i := 955) (by decide +kernel), List.mem_of_getElem? (i := 1264) (by decide +kernel), List.mem_of_getElem? (i := 1265) (by decide +kernel)⟩
theorem lw_p69 : lw_okq (⟨"SortedBlocksModel", "readTable", "(I)V"⟩, 46) := ⟨⟨by decide +kernel, by decide +kernel⟩, List.mem_of_getElem? (i := 955) (by decide +kernel), List.mem_of_getElem? (i := 1268) (by decide +kernel), List.mem_of_getElem? (i := 1269) (by decide +kernel)⟩
theorem lw_p70 : lw_okq (⟨"SortedBlocksModel", "readSymbols", "(I)I"⟩, 46) := ⟨⟨by decide +kernel, by decide +kernel⟩, List.mem_of_getElem? (i := 955) (by decide +kernel), List.mem_of_getElem? (i := 1272) (by decide +kernel), List.mem_of_getElem? (i := 1273) (by decide +kernel)⟩
theorem lw_p71 : lw_okq (⟨"SortedBlocksModel", "readSymbol", "(I)I"⟩, 46) := ⟨⟨by decide +kernel, by decide +kernel⟩, List.mem_of_getElem? (i := 955) (by decide +kernel), List.mem_of_getElem? (i := 1276) (by decide +kernel), List.mem_of_getElem? (i := 1277) (by decide +kernel)⟩
theorem lw_p72 : lw_okq (⟨"SortedBlocksModel", "decode", "(III)I"⟩, 46) := ⟨⟨by decide +kernel, by decide +kernel⟩, List.mem_of_getElem? (i := 955) (by decide +kernel), List.mem_of_getElem? (i := 1280) (by decide +kernel), List.mem_of_getElem? (i := 1281) (by decide +kernel)⟩
theorem lw_p73 : lw_okq (⟨"SortedBlocksModel", "addColumn", "(II)V"⟩, 46) := ⟨⟨by decide +kernel, by decide +kernel⟩, List.mem_of_getElem? (i := 955) (by decide +kernel), List.mem_of_getElem? (i := 1284) (by decide +kernel), List.mem_of_getElem? (i := 1285) (by decide +kernel)⟩
theorem lw_p74 : lw_okq (⟨"SortedBlocksModel", "unsort", "()V"⟩, 46) := ⟨⟨by decide +kernel, by decide +kernel⟩, List.mem_of_getElem? (i := 955) (by decide +kernel), List.mem_of_getElem? (i := 1288) (by decide +kernel), List.mem_of_getElem? (i := 1289) (by decide +kernel)⟩
theorem lw_p75 : lw_okq (⟨"SortedBlocksModel", "lengthen", "()Z"⟩, 46) := ⟨⟨by decide +kernel, by decide +kernel⟩, List.mem_of_getElem? (i := 955) (by decide +kernel), List.mem_of_getElem? (i := 1292) (by decide +kernel), List.mem_of_getElem? (i := 1293) (by decide +kernel)⟩
theorem lw_p76 : lw_okq (⟨"SortedBlocksModel", "tooMuch", "()Z"⟩, 46) := ⟨⟨by decide +kernel, by decide +kernel⟩, List.mem_of_getElem? (i := 955) (by decide +kernel), List.mem_of_getElem? (i := 1296) (by decide +kernel), List.mem_of_getElem? (i := 1297) (by decide +kernel)⟩
theorem lw_p77 : lw_okq (⟨"SortedBlocksModel", "addBytes", "()V"⟩, 46) := ⟨⟨by decide +kernel, by decide +kernel⟩, List.mem_of_getElem? (i := 955) (by decide +kernel), List.mem_of_getElem? (i := 1300) (by decide +kernel), List.mem_of_getElem? (i := 1301) (by decide +kernel)⟩
def lw_privs_5 : List (MethodName × Nat) := [(⟨"SortedBlocksModel", "fail", "(II)V"⟩, 46), (⟨"SortedBlocksModel", "failIf", "(ZII)V"⟩, 46), (⟨"SortedBlocksModel", "readBlock", "(I)V"⟩, 46), (⟨"SortedBlocksModel", "readMaps", "()V"⟩, 46), (⟨"SortedBlocksModel", "readPicks", "()V"⟩, 46), (⟨"SortedBlocksModel", "readTable", "(I)V"⟩, 46), (⟨"SortedBlocksModel", "readSymbols", "(I)I"⟩, 46), (⟨"SortedBlocksModel", "readSymbol", "(I)I"⟩, 46), (⟨"SortedBlocksModel", "decode", "(III)I"⟩, 46), (⟨"SortedBlocksModel", "addColumn", "(II)V"⟩, 46), (⟨"SortedBlocksModel", "unsort", "()V"⟩, 46), (⟨"SortedBlocksModel", "lengthen", "()Z"⟩, 46), (⟨"SortedBlocksModel", "tooMuch", "()Z"⟩, 46), (⟨"SortedBlocksModel", "addBytes", "()V"⟩, 46)]
theorem lw_r5 : ∀ q ∈ lw_privs_5, lw_okq q := List.forall_mem_cons.mpr ⟨lw_p64, List.forall_mem_cons.mpr ⟨lw_p65, List.forall_mem_cons.mpr ⟨lw_p66, List.forall_mem_cons.mpr ⟨lw_p67, List.forall_mem_cons.mpr ⟨lw_p68, List.forall_mem_cons.mpr ⟨lw_p69, List.forall_mem_cons.mpr ⟨lw_p70, List.forall_mem_cons.mpr ⟨lw_p71, List.forall_mem_cons.mpr ⟨lw_p72, List.forall_mem_cons.mpr ⟨lw_p73, List.forall_mem_cons.mpr ⟨lw_p74, List.forall_mem_cons.mpr ⟨lw_p75, List.forall_mem_cons.mpr ⟨lw_p76, List.forall_mem_cons.mpr ⟨lw_p77, fun _ h => absurd h List.not_mem_nil⟩⟩⟩⟩⟩⟩⟩⟩⟩⟩⟩⟩⟩⟩
def lw_privs : List (MethodName × Nat) := lw_privs_1 ++ (lw_privs_2 ++ (lw_privs_3 ++ (lw_privs_4 ++ (lw_privs_5))))
def lw_tbl : List Cond := k2_sels lw_privs ++ tables_1
theorem lw_privs_ok : ∀ q ∈ lw_privs, lw_okq q := by
  show ∀ q ∈ lw_privs_1 ++ (lw_privs_2 ++ (lw_privs_3 ++ (lw_privs_4 ++ (lw_privs_5)))), lw_okq q
  exact List.forall_mem_append.mpr ⟨lw_r1, List.forall_mem_append.mpr ⟨lw_r2, List.forall_mem_append.mpr ⟨lw_r3, List.forall_mem_append.mpr ⟨lw_r4, lw_r5⟩⟩⟩⟩
end
section
/-! Names, fields, words: written by wip/whole/gen out of the Statement and the listing. -/
abbrev zx_M : Type := MethodName × ByteArray × Nat × Option FieldType
def zx_T : List Cond := lw_tbl.filter goodWord
theorem zx_in {w : Cond} (i : Nat) (h : lw_tbl[i]? = some w) (g : goodWord w = true) : w ∈ zx_T := List.mem_filter.mpr ⟨List.mem_of_getElem? h, g⟩
theorem zx_Gd : ∀ w ∈ zx_T, (w.onTables && w.keeps) = true ∨ ∃ ty, w = .arrayClass ty := fun w h => good_of_word (List.mem_filter.mp h).2
theorem zx_Tin : ∀ w ∈ zx_T, w ∈ lw_tbl := fun w h => (List.mem_filter.mp h).1
def zx_CQ : String := "SortedBlocks$Codes"
def F_Main : u_T := fun k => match k with
  | 0 => ("SortedBlocks", "input", "LSortedBlocks$Row;", true)
  | 1 => ("SortedBlocks", "output", "LSortedBlocks$Row;", true)
  | 2 => ("SortedBlocks", "fresh", "LSortedBlocks$Row;", true)
  | 3 => ("SortedBlocks", "bits", "LSortedBlocks$BitReader;", true)
  | 4 => ("SortedBlocks", "reader", "LSortedBlocks$BlockReader;", true)
  | 5 => ("SortedBlocks", "maker", "LSortedBlocks$BlockMaker;", true)
  | 6 => ("SortedBlocks", "writer", "LSortedBlocks$BlockWriter;", true)
  | 7 => ("SortedBlocks", "told", "LSortedBlocks$Block;", false)
  | 8 => ("SortedBlocks", "next", "LSortedBlocks$Block;", false)
  | 9 => ("SortedBlocks", "blockCount", "I", false)
  | 10 => ("SortedBlocks", "readCount", "I", false)
  | _ => ("SortedBlocks", "faultAt", "I", false)
def t_Main : Nat → FieldType := fun k => match k with
  | 0 => .object "SortedBlocks$Row"
  | 1 => .object "SortedBlocks$Row"
  | 2 => .object "SortedBlocks$Row"
  | 3 => .object "SortedBlocks$BitReader"
  | 4 => .object "SortedBlocks$BlockReader"
  | 5 => .object "SortedBlocks$BlockMaker"
  | 6 => .object "SortedBlocks$BlockWriter"
  | 7 => .object "SortedBlocks$Block"
  | 8 => .object "SortedBlocks$Block"
  | 9 => .int
  | 10 => .int
  | _ => .int
def F_Mod : u_T := fun k => match k with
  | 0 => ("SortedBlocksModel", "thrown", "I", false)
  | 1 => ("SortedBlocksModel", "inSize", "I", false)
  | 2 => ("SortedBlocksModel", "in", "[I", true)
  | 3 => ("SortedBlocksModel", "outSize", "I", false)
  | 4 => ("SortedBlocksModel", "outRow", "[I", true)
  | 5 => ("SortedBlocksModel", "newSize", "I", false)
  | 6 => ("SortedBlocksModel", "fresh", "[I", true)
  | 7 => ("SortedBlocksModel", "pos", "I", false)
  | 8 => ("SortedBlocksModel", "fault", "I", false)
  | 9 => ("SortedBlocksModel", "faultAt", "I", false)
  | 10 => ("SortedBlocksModel", "toldAt", "I", false)
  | 11 => ("SortedBlocksModel", "room", "I", false)
  | 12 => ("SortedBlocksModel", "bytes", "I", false)
  | 13 => ("SortedBlocksModel", "plain", "[I", true)
  | 14 => ("SortedBlocksModel", "shorts", "I", false)
  | 15 => ("SortedBlocksModel", "shortRow", "[I", true)
  | 16 => ("SortedBlocksModel", "column", "[I", true)
  | 17 => ("SortedBlocksModel", "symbolCount", "I", false)
  | 18 => ("SortedBlocksModel", "symbols", "[I", true)
  | 19 => ("SortedBlocksModel", "checkNow", "I", false)
  | 20 => ("SortedBlocksModel", "checkAt", "I", false)
  | 21 => ("SortedBlocksModel", "originNow", "I", false)
  | 22 => ("SortedBlocksModel", "kinds", "I", false)
  | 23 => ("SortedBlocksModel", "used", "[Z", true)
  | 24 => ("SortedBlocksModel", "list", "[I", true)
  | 25 => ("SortedBlocksModel", "tables", "I", false)
  | 26 => ("SortedBlocksModel", "lengths", "[I", true)
  | 27 => ("SortedBlocksModel", "codes", "[I", true)
  | 28 => ("SortedBlocksModel", "groups", "I", false)
  | 29 => ("SortedBlocksModel", "picks", "[I", true)
  | 30 => ("SortedBlocksModel", "order", "[I", true)
  | 31 => ("SortedBlocksModel", "places", "[I", true)
  | 32 => ("SortedBlocksModel", "weights", "[I", true)
  | 33 => ("SortedBlocksModel", "into", "[I", true)
  | 34 => ("SortedBlocksModel", "blockCount", "I", false)
  | 35 => ("SortedBlocksModel", "lastOrigin", "I", false)
  | 36 => ("SortedBlocksModel", "lastShorts", "I", false)
  | 37 => ("SortedBlocksModel", "lastSymbols", "I", false)
  | 38 => ("SortedBlocksModel", "lastTables", "I", false)
  | 39 => ("SortedBlocksModel", "lastGroups", "I", false)
  | 40 => ("SortedBlocksModel", "lastKinds", "I", false)
  | 41 => ("SortedBlocksModel", "lastCheck", "I", false)
  | 42 => ("SortedBlocksModel", "lastColumn", "[I", true)
  | 43 => ("SortedBlocksModel", "lastSymbolRow", "[I", true)
  | 44 => ("SortedBlocksModel", "lastLengths", "[I", true)
  | _ => ("SortedBlocksModel", "lastPicks", "[I", true)
def t_Mod : Nat → FieldType := fun k => match k with
  | 0 => .int
  | 1 => .int
  | 2 => .array .int
  | 3 => .int
  | 4 => .array .int
  | 5 => .int
  | 6 => .array .int
  | 7 => .int
  | 8 => .int
  | 9 => .int
  | 10 => .int
  | 11 => .int
  | 12 => .int
  | 13 => .array .int
  | 14 => .int
  | 15 => .array .int
  | 16 => .array .int
  | 17 => .int
  | 18 => .array .int
  | 19 => .int
  | 20 => .int
  | 21 => .int
  | 22 => .int
  | 23 => .array .boolean
  | 24 => .array .int
  | 25 => .int
  | 26 => .array .int
  | 27 => .array .int
  | 28 => .int
  | 29 => .array .int
  | 30 => .array .int
  | 31 => .array .int
  | 32 => .array .int
  | 33 => .array .int
  | 34 => .int
  | 35 => .int
  | 36 => .int
  | 37 => .int
  | 38 => .int
  | 39 => .int
  | 40 => .int
  | 41 => .int
  | 42 => .array .int
  | 43 => .array .int
  | 44 => .array .int
  | _ => .array .int
def F_BitReader : u_T := fun k => match k with
  | 0 => ("SortedBlocks$BitReader", "row", "LSortedBlocks$Row;", true)
  | 1 => ("SortedBlocks$BitReader", "place", "I", false)
  | _ => ("SortedBlocks$BitReader", "began", "I", false)
def t_BitReader : Nat → FieldType := fun k => match k with
  | 0 => .object "SortedBlocks$Row"
  | 1 => .int
  | _ => .int
def F_BitWriter : u_T := fun k => match k with
  | 0 => ("SortedBlocks$BitWriter", "row", "LSortedBlocks$Row;", true)
  | 1 => ("SortedBlocks$BitWriter", "held", "I", false)
  | _ => ("SortedBlocks$BitWriter", "heldBits", "I", false)
def t_BitWriter : Nat → FieldType := fun k => match k with
  | 0 => .object "SortedBlocks$Row"
  | 1 => .int
  | _ => .int
def F_Block : u_T := fun k => match k with
  | 0 => ("SortedBlocks$Block", "check", "I", false)
  | 1 => ("SortedBlocks$Block", "origin", "I", false)
  | 2 => ("SortedBlocks$Block", "count", "I", false)
  | 3 => ("SortedBlocks$Block", "shortened", "[I", true)
  | 4 => ("SortedBlocks$Block", "column", "[I", true)
  | 5 => ("SortedBlocks$Block", "kinds", "I", false)
  | 6 => ("SortedBlocks$Block", "kindList", "[I", true)
  | 7 => ("SortedBlocks$Block", "symbolCount", "I", false)
  | 8 => ("SortedBlocks$Block", "symbols", "[I", true)
  | 9 => ("SortedBlocks$Block", "tables", "I", false)
  | 10 => ("SortedBlocks$Block", "lengths", "[[I", true)
  | 11 => ("SortedBlocks$Block", "groups", "I", false)
  | _ => ("SortedBlocks$Block", "picks", "[I", true)
def t_Block : Nat → FieldType := fun k => match k with
  | 0 => .int
  | 1 => .int
  | 2 => .int
  | 3 => .array .int
  | 4 => .array .int
  | 5 => .int
  | 6 => .array .int
  | 7 => .int
  | 8 => .array .int
  | 9 => .int
  | 10 => .array (.array .int)
  | 11 => .int
  | _ => .array .int
def F_BlockMaker : u_T := fun k => match k with
  | 0 => ("SortedBlocks$BlockMaker", "order", "[I", true)
  | 1 => ("SortedBlocks$BlockMaker", "present", "[I", true)
  | 2 => ("SortedBlocks$BlockMaker", "list", "LSortedBlocks$MoveList;", true)
  | _ => ("SortedBlocks$BlockMaker", "picker", "LSortedBlocks$Picker;", true)
def t_BlockMaker : Nat → FieldType := fun k => match k with
  | 0 => .array .int
  | 1 => .array .int
  | 2 => .object "SortedBlocks$MoveList"
  | _ => .object "SortedBlocks$Picker"
def F_BlockReader : u_T := fun k => match k with
  | 0 => ("SortedBlocks$BlockReader", "bits", "LSortedBlocks$BitReader;", true)
  | 1 => ("SortedBlocks$BlockReader", "list", "LSortedBlocks$MoveList;", true)
  | 2 => ("SortedBlocks$BlockReader", "codes", "[LSortedBlocks$Codes;", true)
  | 3 => ("SortedBlocks$BlockReader", "follower", "[I", true)
  | 4 => ("SortedBlocks$BlockReader", "places", "[I", true)
  | _ => ("SortedBlocks$BlockReader", "digit", "I", false)
def t_BlockReader : Nat → FieldType := fun k => match k with
  | 0 => .object "SortedBlocks$BitReader"
  | 1 => .object "SortedBlocks$MoveList"
  | 2 => .array (.object "SortedBlocks$Codes")
  | 3 => .array .int
  | 4 => .array .int
  | _ => .int
def F_BlockWriter : u_T := fun k => match k with
  | 0 => ("SortedBlocks$BlockWriter", "bits", "LSortedBlocks$BitWriter;", true)
  | 1 => ("SortedBlocks$BlockWriter", "maps", "[I", true)
  | 2 => ("SortedBlocks$BlockWriter", "list", "LSortedBlocks$MoveList;", true)
  | _ => ("SortedBlocks$BlockWriter", "codes", "[LSortedBlocks$Codes;", true)
def t_BlockWriter : Nat → FieldType := fun k => match k with
  | 0 => .object "SortedBlocks$BitWriter"
  | 1 => .array .int
  | 2 => .object "SortedBlocks$MoveList"
  | _ => .array (.object "SortedBlocks$Codes")
def F_Codes : u_T := fun k => match k with
  | 0 => ("SortedBlocks$Codes", "first", "[I", true)
  | 1 => ("SortedBlocks$Codes", "many", "[I", true)
  | 2 => ("SortedBlocks$Codes", "start", "[I", true)
  | 3 => ("SortedBlocks$Codes", "order", "[I", true)
  | _ => ("SortedBlocks$Codes", "codes", "[I", true)
def t_Codes : Nat → FieldType := fun k => match k with
  | 0 => .array .int
  | 1 => .array .int
  | 2 => .array .int
  | 3 => .array .int
  | _ => .array .int
def F_MoveList : u_T := fun k => match k with
  | 0 => ("SortedBlocks$MoveList", "items", "[I", true)
  | _ => ("SortedBlocks$MoveList", "count", "I", false)
def t_MoveList : Nat → FieldType := fun k => match k with
  | 0 => .array .int
  | _ => .int
def F_Picker : u_T := fun k => match k with
  | 0 => ("SortedBlocks$Picker", "trees", "LSortedBlocks$Trees;", true)
  | _ => ("SortedBlocks$Picker", "weights", "[I", true)
def t_Picker : Nat → FieldType := fun k => match k with
  | 0 => .object "SortedBlocks$Trees"
  | _ => .array .int
def F_Row : u_T := fun k => match k with
  | 0 => ("SortedBlocks$Row", "items", "[I", true)
  | _ => ("SortedBlocks$Row", "count", "I", false)
def t_Row : Nat → FieldType := fun k => match k with
  | 0 => .array .int
  | _ => .int
def F_Trees : u_T := fun k => match k with
  | 0 => ("SortedBlocks$Trees", "weight", "[I", true)
  | 1 => ("SortedBlocks$Trees", "parent", "[I", true)
  | 2 => ("SortedBlocks$Trees", "depth", "[I", true)
  | 3 => ("SortedBlocks$Trees", "symbolsByWeight", "[I", true)
  | 4 => ("SortedBlocks$Trees", "symbolCount", "I", false)
  | 5 => ("SortedBlocks$Trees", "nextSymbol", "I", false)
  | _ => ("SortedBlocks$Trees", "nextTree", "I", false)
def t_Trees : Nat → FieldType := fun k => match k with
  | 0 => .array .int
  | 1 => .array .int
  | 2 => .array .int
  | 3 => .array .int
  | 4 => .int
  | 5 => .int
  | _ => .int
abbrev zx_cl : List vw_C := [("SortedBlocks", F_Main, 12), ("SortedBlocksModel", F_Mod, 46), ("SortedBlocks$BitReader", F_BitReader, 3), ("SortedBlocks$BitWriter", F_BitWriter, 3), ("SortedBlocks$Block", F_Block, 13), ("SortedBlocks$BlockMaker", F_BlockMaker, 4), ("SortedBlocks$BlockReader", F_BlockReader, 6), ("SortedBlocks$BlockWriter", F_BlockWriter, 4), ("SortedBlocks$Codes", F_Codes, 5), ("SortedBlocks$MoveList", F_MoveList, 2), ("SortedBlocks$Picker", F_Picker, 2), ("SortedBlocks$Row", F_Row, 2), ("SortedBlocks$Trees", F_Trees, 7)]
def zx_ft : Nat → List Bool := fun k => match k with
  | 0 => [true, true, true, true, true, true, true, true, true, false, false, false]
  | 1 => [false, false, true, false, true, false, true, false, false, false, false, false, false, true, false, true, true, false, true, false, false, false, false, true, true, false, true, true, false, true, true, true, true, true, false, false, false, false, false, false, false, false, true, true, true, true]
  | 2 => [true, false, false]
  | 3 => [true, false, false]
  | 4 => [false, false, false, true, true, false, true, false, true, false, true, false, true]
  | 5 => [true, true, true, true]
  | 6 => [true, true, true, true, true, false]
  | 7 => [true, true, true, true]
  | 8 => [true, true, true, true, true]
  | 9 => [true, false]
  | 10 => [true, true]
  | 11 => [true, false]
  | 12 => [true, true, true, true, false, false, false]
  | _ => []
theorem cw_Main : ∀ w ∈ u_ws "SortedBlocks" F_Main 12, w ∈ zx_T := by decide +kernel
theorem ct_Main : ∀ k, k < 12 → parseFieldDescriptor (F_Main k).2.2.1 = some (t_Main k) := by decide +kernel
theorem cn_Main : ∀ a, a < 12 → ∀ b, b < 12 → a ≠ b → (F_Main a).2.1 ≠ (F_Main b).2.1 := by decide +kernel
theorem cw_Mod : ∀ w ∈ u_ws "SortedBlocksModel" F_Mod 46, w ∈ zx_T := by decide +kernel
theorem ct_Mod : ∀ k, k < 46 → parseFieldDescriptor (F_Mod k).2.2.1 = some (t_Mod k) := by decide +kernel
theorem cn_Mod : ∀ a, a < 46 → ∀ b, b < 46 → a ≠ b → (F_Mod a).2.1 ≠ (F_Mod b).2.1 := by decide +kernel
theorem cw_BitReader : ∀ w ∈ u_ws "SortedBlocks$BitReader" F_BitReader 3, w ∈ zx_T := by decide +kernel
theorem ct_BitReader : ∀ k, k < 3 → parseFieldDescriptor (F_BitReader k).2.2.1 = some (t_BitReader k) := by decide +kernel
theorem cn_BitReader : ∀ a, a < 3 → ∀ b, b < 3 → a ≠ b → (F_BitReader a).2.1 ≠ (F_BitReader b).2.1 := by decide +kernel
theorem cw_BitWriter : ∀ w ∈ u_ws "SortedBlocks$BitWriter" F_BitWriter 3, w ∈ zx_T := by decide +kernel
theorem ct_BitWriter : ∀ k, k < 3 → parseFieldDescriptor (F_BitWriter k).2.2.1 = some (t_BitWriter k) := by decide +kernel
theorem cn_BitWriter : ∀ a, a < 3 → ∀ b, b < 3 → a ≠ b → (F_BitWriter a).2.1 ≠ (F_BitWriter b).2.1 := by decide +kernel
theorem cw_Block : ∀ w ∈ u_ws "SortedBlocks$Block" F_Block 13, w ∈ zx_T := by decide +kernel
theorem ct_Block : ∀ k, k < 13 → parseFieldDescriptor (F_Block k).2.2.1 = some (t_Block k) := by decide +kernel
theorem cn_Block : ∀ a, a < 13 → ∀ b, b < 13 → a ≠ b → (F_Block a).2.1 ≠ (F_Block b).2.1 := by decide +kernel
theorem cw_BlockMaker : ∀ w ∈ u_ws "SortedBlocks$BlockMaker" F_BlockMaker 4, w ∈ zx_T := by decide +kernel
theorem ct_BlockMaker : ∀ k, k < 4 → parseFieldDescriptor (F_BlockMaker k).2.2.1 = some (t_BlockMaker k) := by decide +kernel
theorem cn_BlockMaker : ∀ a, a < 4 → ∀ b, b < 4 → a ≠ b → (F_BlockMaker a).2.1 ≠ (F_BlockMaker b).2.1 := by decide +kernel
theorem cw_BlockReader : ∀ w ∈ u_ws "SortedBlocks$BlockReader" F_BlockReader 6, w ∈ zx_T := by decide +kernel
theorem ct_BlockReader : ∀ k, k < 6 → parseFieldDescriptor (F_BlockReader k).2.2.1 = some (t_BlockReader k) := by decide +kernel
theorem cn_BlockReader : ∀ a, a < 6 → ∀ b, b < 6 → a ≠ b → (F_BlockReader a).2.1 ≠ (F_BlockReader b).2.1 := by decide +kernel
theorem cw_BlockWriter : ∀ w ∈ u_ws "SortedBlocks$BlockWriter" F_BlockWriter 4, w ∈ zx_T := by decide +kernel
theorem ct_BlockWriter : ∀ k, k < 4 → parseFieldDescriptor (F_BlockWriter k).2.2.1 = some (t_BlockWriter k) := by decide +kernel
theorem cn_BlockWriter : ∀ a, a < 4 → ∀ b, b < 4 → a ≠ b → (F_BlockWriter a).2.1 ≠ (F_BlockWriter b).2.1 := by decide +kernel
theorem cw_Codes : ∀ w ∈ u_ws "SortedBlocks$Codes" F_Codes 5, w ∈ zx_T := by decide +kernel
theorem ct_Codes : ∀ k, k < 5 → parseFieldDescriptor (F_Codes k).2.2.1 = some (t_Codes k) := by decide +kernel
theorem cn_Codes : ∀ a, a < 5 → ∀ b, b < 5 → a ≠ b → (F_Codes a).2.1 ≠ (F_Codes b).2.1 := by decide +kernel
theorem cw_MoveList : ∀ w ∈ u_ws "SortedBlocks$MoveList" F_MoveList 2, w ∈ zx_T := by decide +kernel
theorem ct_MoveList : ∀ k, k < 2 → parseFieldDescriptor (F_MoveList k).2.2.1 = some (t_MoveList k) := by decide +kernel
theorem cn_MoveList : ∀ a, a < 2 → ∀ b, b < 2 → a ≠ b → (F_MoveList a).2.1 ≠ (F_MoveList b).2.1 := by decide +kernel
theorem cw_Picker : ∀ w ∈ u_ws "SortedBlocks$Picker" F_Picker 2, w ∈ zx_T := by decide +kernel
theorem ct_Picker : ∀ k, k < 2 → parseFieldDescriptor (F_Picker k).2.2.1 = some (t_Picker k) := by decide +kernel
theorem cn_Picker : ∀ a, a < 2 → ∀ b, b < 2 → a ≠ b → (F_Picker a).2.1 ≠ (F_Picker b).2.1 := by decide +kernel
theorem cw_Row : ∀ w ∈ u_ws "SortedBlocks$Row" F_Row 2, w ∈ zx_T := by decide +kernel
theorem ct_Row : ∀ k, k < 2 → parseFieldDescriptor (F_Row k).2.2.1 = some (t_Row k) := by decide +kernel
theorem cn_Row : ∀ a, a < 2 → ∀ b, b < 2 → a ≠ b → (F_Row a).2.1 ≠ (F_Row b).2.1 := by decide +kernel
theorem cw_Trees : ∀ w ∈ u_ws "SortedBlocks$Trees" F_Trees 7, w ∈ zx_T := by decide +kernel
theorem ct_Trees : ∀ k, k < 7 → parseFieldDescriptor (F_Trees k).2.2.1 = some (t_Trees k) := by decide +kernel
theorem cn_Trees : ∀ a, a < 7 → ∀ b, b < 7 → a ≠ b → (F_Trees a).2.1 ≠ (F_Trees b).2.1 := by decide +kernel
abbrev M_Main_init : zx_M := (⟨"SortedBlocks", "<init>", "()V"⟩, prog_1_method_1_code, 1, none)
abbrev M_Main_feed : zx_M := (⟨"SortedBlocks", "feed", "(JI)I"⟩, prog_1_method_2_code, 5, some .int)
abbrev M_Main_keep : zx_M := (⟨"SortedBlocks", "keep", "(I)V"⟩, prog_1_method_3_code, 2, none)
abbrev M_Main_damage : zx_M := (⟨"SortedBlocks", "damage", "(I)V"⟩, prog_1_method_4_code, 2, none)
abbrev M_Main_append : zx_M := (⟨"SortedBlocks", "append", "()I"⟩, prog_1_method_5_code, 1, some .int)
abbrev M_Main_pack : zx_M := (⟨"SortedBlocks", "pack", "(I)I"⟩, prog_1_method_6_code, 5, some .int)
abbrev M_Main_unpack : zx_M := (⟨"SortedBlocks", "unpack", "()I"⟩, prog_1_method_7_code, 3, some .int)
abbrev M_Main_at : zx_M := (⟨"SortedBlocks", "at", "()I"⟩, prog_1_method_8_code, 1, some .int)
abbrev M_Main_rescue : zx_M := (⟨"SortedBlocks", "rescue", "()I"⟩, prog_1_method_9_code, 3, some .int)
abbrev M_Main_given : zx_M := (⟨"SortedBlocks", "given", "()I"⟩, prog_1_method_10_code, 1, some .int)
abbrev M_Main_size : zx_M := (⟨"SortedBlocks", "size", "()I"⟩, prog_1_method_11_code, 1, some .int)
abbrev M_Main_out : zx_M := (⟨"SortedBlocks", "out", "(I)I"⟩, prog_1_method_12_code, 2, some .int)
abbrev M_Main_blocks : zx_M := (⟨"SortedBlocks", "blocks", "()I"⟩, prog_1_method_13_code, 1, some .int)
abbrev M_Main_block : zx_M := (⟨"SortedBlocks", "block", "(I)I"⟩, prog_1_method_14_code, 2, some .int)
abbrev M_Main_last : zx_M := (⟨"SortedBlocks", "last", "(I)I"⟩, prog_1_method_15_code, 2, some .int)
abbrev M_Main_symbol : zx_M := (⟨"SortedBlocks", "symbol", "(I)I"⟩, prog_1_method_16_code, 2, some .int)
abbrev M_Main_length : zx_M := (⟨"SortedBlocks", "length", "(II)I"⟩, prog_1_method_17_code, 4, some .int)
abbrev M_Main_table : zx_M := (⟨"SortedBlocks", "table", "(I)I"⟩, prog_1_method_18_code, 2, some .int)
abbrev M_Main_readStream : zx_M := (⟨"SortedBlocks", "readStream", "()I"⟩, prog_1_method_19_code, 6, some .int)
abbrev M_Main_readTotal : zx_M := (⟨"SortedBlocks", "readTotal", "(I)I"⟩, prog_1_method_20_code, 3, some .int)
abbrev M_Main_readHead : zx_M := (⟨"SortedBlocks", "readHead", "()I"⟩, prog_1_method_21_code, 3, some .int)
abbrev M_Main_tellNext : zx_M := (⟨"SortedBlocks", "tellNext", "()V"⟩, prog_1_method_22_code, 2, none)
abbrev M_Main_takeFresh : zx_M := (⟨"SortedBlocks", "takeFresh", "()V"⟩, prog_1_method_23_code, 1, none)
abbrev M_Main_nextTotal : zx_M := (⟨"SortedBlocks", "nextTotal", "(II)I"⟩, prog_1_method_24_code, 2, some .int)
abbrev M_Main_mapBit : zx_M := (⟨"SortedBlocks", "mapBit", "(I)I"⟩, prog_1_method_25_code, 1, some .int)
abbrev M_Main_checkOf : zx_M := (⟨"SortedBlocks", "checkOf", "(LSortedBlocks$Row;II)I"⟩, prog_1_method_26_code, 6, some .int)
abbrev M_Mod_init : zx_M := (⟨"SortedBlocksModel", "<init>", "()V"⟩, prog_14_method_1_code, 1, none)
abbrev M_Mod_thrown : zx_M := (⟨"SortedBlocksModel", "thrown", "()I"⟩, prog_14_method_2_code, 1, some .int)
abbrev M_Mod_feed : zx_M := (⟨"SortedBlocksModel", "feed", "(JI)I"⟩, prog_14_method_3_code, 5, some .int)
abbrev M_Mod_keep : zx_M := (⟨"SortedBlocksModel", "keep", "(I)V"⟩, prog_14_method_4_code, 2, none)
abbrev M_Mod_damage : zx_M := (⟨"SortedBlocksModel", "damage", "(I)V"⟩, prog_14_method_5_code, 2, none)
abbrev M_Mod_append : zx_M := (⟨"SortedBlocksModel", "append", "()I"⟩, prog_14_method_6_code, 2, some .int)
abbrev M_Mod_takeOver : zx_M := (⟨"SortedBlocksModel", "takeOver", "()V"⟩, prog_14_method_7_code, 2, none)
abbrev M_Mod_step : zx_M := (⟨"SortedBlocksModel", "step", "(II)I"⟩, prog_14_method_8_code, 4, some .int)
abbrev M_Mod_checkOf : zx_M := (⟨"SortedBlocksModel", "checkOf", "()I"⟩, prog_14_method_9_code, 3, some .int)
abbrev M_Mod_addTotal : zx_M := (⟨"SortedBlocksModel", "addTotal", "(II)I"⟩, prog_14_method_10_code, 2, some .int)
abbrev M_Mod_shorten : zx_M := (⟨"SortedBlocksModel", "shorten", "(II)I"⟩, prog_14_method_11_code, 8, some .int)
abbrev M_Mod_lengthen : zx_M := (⟨"SortedBlocksModel", "lengthen", "()Z"⟩, prog_14_method_12_code, 4, some .boolean)
abbrev M_Mod_before : zx_M := (⟨"SortedBlocksModel", "before", "(II)Z"⟩, prog_14_method_13_code, 6, some .boolean)
abbrev M_Mod_sort : zx_M := (⟨"SortedBlocksModel", "sort", "()V"⟩, prog_14_method_14_code, 4, none)
abbrev M_Mod_unsort : zx_M := (⟨"SortedBlocksModel", "unsort", "()V"⟩, prog_14_method_15_code, 4, none)
abbrev M_Mod_listUsed : zx_M := (⟨"SortedBlocksModel", "listUsed", "()V"⟩, prog_14_method_16_code, 2, none)
abbrev M_Mod_toFront : zx_M := (⟨"SortedBlocksModel", "toFront", "(I)I"⟩, prog_14_method_17_code, 4, some .int)
abbrev M_Mod_addSymbol : zx_M := (⟨"SortedBlocksModel", "addSymbol", "(I)V"⟩, prog_14_method_18_code, 2, none)
abbrev M_Mod_addRun : zx_M := (⟨"SortedBlocksModel", "addRun", "(I)V"⟩, prog_14_method_19_code, 4, none)
abbrev M_Mod_makeSymbols : zx_M := (⟨"SortedBlocksModel", "makeSymbols", "()V"⟩, prog_14_method_20_code, 5, none)
abbrev M_Mod_firstTree : zx_M := (⟨"SortedBlocksModel", "firstTree", "(II)I"⟩, prog_14_method_21_code, 5, some .int)
abbrev M_Mod_makeLengths : zx_M := (⟨"SortedBlocksModel", "makeLengths", "(I)V"⟩, prog_14_method_22_code, 7, none)
abbrev M_Mod_makeCodes : zx_M := (⟨"SortedBlocksModel", "makeCodes", "(I)V"⟩, prog_14_method_23_code, 6, none)
abbrev M_Mod_costOf : zx_M := (⟨"SortedBlocksModel", "costOf", "(II)I"⟩, prog_14_method_24_code, 5, some .int)
abbrev M_Mod_pick : zx_M := (⟨"SortedBlocksModel", "pick", "()V"⟩, prog_14_method_25_code, 4, none)
abbrev M_Mod_write : zx_M := (⟨"SortedBlocksModel", "write", "(II)V"⟩, prog_14_method_26_code, 4, none)
abbrev M_Mod_mapOf : zx_M := (⟨"SortedBlocksModel", "mapOf", "(II)I"⟩, prog_14_method_27_code, 7, some .int)
abbrev M_Mod_writeMaps : zx_M := (⟨"SortedBlocksModel", "writeMaps", "()V"⟩, prog_14_method_28_code, 3, none)
abbrev M_Mod_beginOrder : zx_M := (⟨"SortedBlocksModel", "beginOrder", "()V"⟩, prog_14_method_29_code, 2, none)
abbrev M_Mod_orderFront : zx_M := (⟨"SortedBlocksModel", "orderFront", "(I)I"⟩, prog_14_method_30_code, 4, some .int)
abbrev M_Mod_writePicks : zx_M := (⟨"SortedBlocksModel", "writePicks", "()V"⟩, prog_14_method_31_code, 5, none)
abbrev M_Mod_writeTable : zx_M := (⟨"SortedBlocksModel", "writeTable", "(I)V"⟩, prog_14_method_32_code, 4, none)
abbrev M_Mod_writeBlock : zx_M := (⟨"SortedBlocksModel", "writeBlock", "()V"⟩, prog_14_method_33_code, 3, none)
abbrev M_Mod_packBlock : zx_M := (⟨"SortedBlocksModel", "packBlock", "(II)I"⟩, prog_14_method_34_code, 5, some .int)
abbrev M_Mod_remember : zx_M := (⟨"SortedBlocksModel", "remember", "()V"⟩, prog_14_method_35_code, 2, none)
abbrev M_Mod_pack : zx_M := (⟨"SortedBlocksModel", "pack", "(I)I"⟩, prog_14_method_36_code, 4, some .int)
abbrev M_Mod_fail : zx_M := (⟨"SortedBlocksModel", "fail", "(II)V"⟩, prog_14_method_37_code, 3, none)
abbrev M_Mod_take : zx_M := (⟨"SortedBlocksModel", "take", "(II)I"⟩, prog_14_method_38_code, 5, some .int)
abbrev M_Mod_failIf : zx_M := (⟨"SortedBlocksModel", "failIf", "(ZII)V"⟩, prog_14_method_39_code, 4, none)
abbrev M_Mod_readMaps : zx_M := (⟨"SortedBlocksModel", "readMaps", "()V"⟩, prog_14_method_40_code, 6, none)
abbrev M_Mod_readPicks : zx_M := (⟨"SortedBlocksModel", "readPicks", "()V"⟩, prog_14_method_41_code, 4, none)
abbrev M_Mod_readTable : zx_M := (⟨"SortedBlocksModel", "readTable", "(I)V"⟩, prog_14_method_42_code, 6, none)
abbrev M_Mod_decode : zx_M := (⟨"SortedBlocksModel", "decode", "(III)I"⟩, prog_14_method_43_code, 5, some .int)
abbrev M_Mod_readSymbol : zx_M := (⟨"SortedBlocksModel", "readSymbol", "(I)I"⟩, prog_14_method_44_code, 6, some .int)
abbrev M_Mod_addColumn : zx_M := (⟨"SortedBlocksModel", "addColumn", "(II)V"⟩, prog_14_method_45_code, 4, none)
abbrev M_Mod_readSymbols : zx_M := (⟨"SortedBlocksModel", "readSymbols", "(I)I"⟩, prog_14_method_46_code, 7, some .int)
abbrev M_Mod_readBlock : zx_M := (⟨"SortedBlocksModel", "readBlock", "(I)V"⟩, prog_14_method_47_code, 5, none)
abbrev M_Mod_tooMuch : zx_M := (⟨"SortedBlocksModel", "tooMuch", "()Z"⟩, prog_14_method_48_code, 1, some .boolean)
abbrev M_Mod_addBytes : zx_M := (⟨"SortedBlocksModel", "addBytes", "()V"⟩, prog_14_method_49_code, 2, none)
abbrev M_Mod_readStream : zx_M := (⟨"SortedBlocksModel", "readStream", "()I"⟩, prog_14_method_50_code, 6, some .int)
abbrev M_Mod_unpack : zx_M := (⟨"SortedBlocksModel", "unpack", "()I"⟩, prog_14_method_51_code, 3, some .int)
abbrev M_Mod_at : zx_M := (⟨"SortedBlocksModel", "at", "()I"⟩, prog_14_method_52_code, 1, some .int)
abbrev M_Mod_rescue : zx_M := (⟨"SortedBlocksModel", "rescue", "()I"⟩, prog_14_method_53_code, 3, some .int)
abbrev M_Mod_given : zx_M := (⟨"SortedBlocksModel", "given", "()I"⟩, prog_14_method_54_code, 1, some .int)
abbrev M_Mod_size : zx_M := (⟨"SortedBlocksModel", "size", "()I"⟩, prog_14_method_55_code, 1, some .int)
abbrev M_Mod_out : zx_M := (⟨"SortedBlocksModel", "out", "(I)I"⟩, prog_14_method_56_code, 2, some .int)
abbrev M_Mod_blocks : zx_M := (⟨"SortedBlocksModel", "blocks", "()I"⟩, prog_14_method_57_code, 1, some .int)
abbrev M_Mod_block : zx_M := (⟨"SortedBlocksModel", "block", "(I)I"⟩, prog_14_method_58_code, 2, some .int)
abbrev M_Mod_last : zx_M := (⟨"SortedBlocksModel", "last", "(I)I"⟩, prog_14_method_59_code, 2, some .int)
abbrev M_Mod_symbol : zx_M := (⟨"SortedBlocksModel", "symbol", "(I)I"⟩, prog_14_method_60_code, 2, some .int)
abbrev M_Mod_length : zx_M := (⟨"SortedBlocksModel", "length", "(II)I"⟩, prog_14_method_61_code, 3, some .int)
abbrev M_Mod_table : zx_M := (⟨"SortedBlocksModel", "table", "(I)I"⟩, prog_14_method_62_code, 2, some .int)
abbrev M_BitReader_init : zx_M := (⟨"SortedBlocks$BitReader", "<init>", "(LSortedBlocks$Row;)V"⟩, prog_2_method_1_code, 2, none)
abbrev M_BitReader_isAtEnd : zx_M := (⟨"SortedBlocks$BitReader", "isAtEnd", "()Z"⟩, prog_2_method_2_code, 1, some .boolean)
abbrev M_BitReader_goTo : zx_M := (⟨"SortedBlocks$BitReader", "goTo", "(I)V"⟩, prog_2_method_3_code, 2, none)
abbrev M_BitReader_skipToByte : zx_M := (⟨"SortedBlocks$BitReader", "skipToByte", "()V"⟩, prog_2_method_4_code, 1, none)
abbrev M_BitReader_beginNumber : zx_M := (⟨"SortedBlocks$BitReader", "beginNumber", "()V"⟩, prog_2_method_5_code, 1, none)
abbrev M_BitReader_takeBit : zx_M := (⟨"SortedBlocks$BitReader", "takeBit", "()I"⟩, prog_2_method_6_code, 3, some .int)
abbrev M_BitReader_takeNumber : zx_M := (⟨"SortedBlocks$BitReader", "takeNumber", "(I)I"⟩, prog_2_method_7_code, 5, some .int)
abbrev M_BitReader_findMark : zx_M := (⟨"SortedBlocks$BitReader", "findMark", "(I)Z"⟩, prog_2_method_8_code, 5, some .boolean)
abbrev M_BitWriter_init : zx_M := (⟨"SortedBlocks$BitWriter", "<init>", "(LSortedBlocks$Row;)V"⟩, prog_3_method_1_code, 2, none)
abbrev M_BitWriter_put : zx_M := (⟨"SortedBlocks$BitWriter", "put", "(II)V"⟩, prog_3_method_2_code, 4, none)
abbrev M_BitWriter_fillByte : zx_M := (⟨"SortedBlocks$BitWriter", "fillByte", "()V"⟩, prog_3_method_3_code, 1, none)
abbrev M_BitWriter_putBit : zx_M := (⟨"SortedBlocks$BitWriter", "putBit", "(I)V"⟩, prog_3_method_4_code, 2, none)
abbrev M_Block_init : zx_M := (⟨"SortedBlocks$Block", "<init>", "()V"⟩, prog_4_method_1_code, 1, none)
abbrev M_Block_symbolKinds : zx_M := (⟨"SortedBlocks$Block", "symbolKinds", "()I"⟩, prog_4_method_2_code, 1, some .int)
abbrev M_Block_endSymbol : zx_M := (⟨"SortedBlocks$Block", "endSymbol", "()I"⟩, prog_4_method_3_code, 1, some .int)
abbrev M_Block_addKind : zx_M := (⟨"SortedBlocks$Block", "addKind", "(I)V"⟩, prog_4_method_4_code, 2, none)
abbrev M_Block_addShortened : zx_M := (⟨"SortedBlocks$Block", "addShortened", "(I)V"⟩, prog_4_method_5_code, 2, none)
abbrev M_Block_addToColumn : zx_M := (⟨"SortedBlocks$Block", "addToColumn", "(I)V"⟩, prog_4_method_6_code, 2, none)
abbrev M_Block_addSymbol : zx_M := (⟨"SortedBlocks$Block", "addSymbol", "(I)V"⟩, prog_4_method_7_code, 2, none)
abbrev M_Block_pickOfSymbol : zx_M := (⟨"SortedBlocks$Block", "pickOfSymbol", "(I)I"⟩, prog_4_method_8_code, 3, some .int)
abbrev M_BlockMaker_init : zx_M := (⟨"SortedBlocks$BlockMaker", "<init>", "()V"⟩, prog_5_method_1_code, 1, none)
abbrev M_BlockMaker_makeBlock : zx_M := (⟨"SortedBlocks$BlockMaker", "makeBlock", "(LSortedBlocks$Block;LSortedBlocks$Row;II)I"⟩, prog_5_method_2_code, 6, some .int)
abbrev M_BlockMaker_shorten : zx_M := (⟨"SortedBlocks$BlockMaker", "shorten", "(LSortedBlocks$Block;LSortedBlocks$Row;II)I"⟩, prog_5_method_3_code, 8, some .int)
abbrev M_BlockMaker_sortRotations : zx_M := (⟨"SortedBlocks$BlockMaker", "sortRotations", "(LSortedBlocks$Block;)V"⟩, prog_5_method_4_code, 6, none)
abbrev M_BlockMaker_isBefore : zx_M := (⟨"SortedBlocks$BlockMaker", "isBefore", "(LSortedBlocks$Block;II)Z"⟩, prog_5_method_5_code, 6, some .boolean)
abbrev M_BlockMaker_readOrder : zx_M := (⟨"SortedBlocks$BlockMaker", "readOrder", "(LSortedBlocks$Block;)V"⟩, prog_5_method_6_code, 4, none)
abbrev M_BlockMaker_listKinds : zx_M := (⟨"SortedBlocks$BlockMaker", "listKinds", "(LSortedBlocks$Block;)V"⟩, prog_5_method_7_code, 3, none)
abbrev M_BlockMaker_findSymbols : zx_M := (⟨"SortedBlocks$BlockMaker", "findSymbols", "(LSortedBlocks$Block;)V"⟩, prog_5_method_8_code, 5, none)
abbrev M_BlockMaker_addRun : zx_M := (⟨"SortedBlocks$BlockMaker", "addRun", "(LSortedBlocks$Block;I)V"⟩, prog_5_method_9_code, 3, none)
abbrev M_BlockReader_init : zx_M := (⟨"SortedBlocks$BlockReader", "<init>", "(LSortedBlocks$BitReader;)V"⟩, prog_6_method_1_code, 3, none)
abbrev M_BlockReader_readBlock : zx_M := (⟨"SortedBlocks$BlockReader", "readBlock", "(LSortedBlocks$Block;ILSortedBlocks$Row;)I"⟩, prog_6_method_2_code, 7, some .int)
abbrev M_BlockReader_readNumbers : zx_M := (⟨"SortedBlocks$BlockReader", "readNumbers", "(LSortedBlocks$Block;)I"⟩, prog_6_method_3_code, 2, some .int)
abbrev M_BlockReader_readMap : zx_M := (⟨"SortedBlocks$BlockReader", "readMap", "(LSortedBlocks$Block;)I"⟩, prog_6_method_4_code, 5, some .int)
abbrev M_BlockReader_addKinds : zx_M := (⟨"SortedBlocks$BlockReader", "addKinds", "(LSortedBlocks$Block;II)V"⟩, prog_6_method_5_code, 4, none)
abbrev M_BlockReader_readCounts : zx_M := (⟨"SortedBlocks$BlockReader", "readCounts", "(LSortedBlocks$Block;)I"⟩, prog_6_method_6_code, 2, some .int)
abbrev M_BlockReader_readPicks : zx_M := (⟨"SortedBlocks$BlockReader", "readPicks", "(LSortedBlocks$Block;)I"⟩, prog_6_method_7_code, 4, some .int)
abbrev M_BlockReader_readPick : zx_M := (⟨"SortedBlocks$BlockReader", "readPick", "(I)I"⟩, prog_6_method_8_code, 4, some .int)
abbrev M_BlockReader_readTables : zx_M := (⟨"SortedBlocks$BlockReader", "readTables", "(LSortedBlocks$Block;)I"⟩, prog_6_method_9_code, 4, some .int)
abbrev M_BlockReader_readLengths : zx_M := (⟨"SortedBlocks$BlockReader", "readLengths", "([II)I"⟩, prog_6_method_10_code, 5, some .int)
abbrev M_BlockReader_readLength : zx_M := (⟨"SortedBlocks$BlockReader", "readLength", "(I)I"⟩, prog_6_method_11_code, 6, some .int)
abbrev M_BlockReader_readSymbols : zx_M := (⟨"SortedBlocks$BlockReader", "readSymbols", "(LSortedBlocks$Block;I)I"⟩, prog_6_method_12_code, 5, some .int)
abbrev M_BlockReader_readSymbol : zx_M := (⟨"SortedBlocks$BlockReader", "readSymbol", "(LSortedBlocks$Codes;)I"⟩, prog_6_method_13_code, 6, some .int)
abbrev M_BlockReader_addBytes : zx_M := (⟨"SortedBlocks$BlockReader", "addBytes", "(LSortedBlocks$Block;II)Z"⟩, prog_6_method_14_code, 8, some .boolean)
abbrev M_BlockReader_unsort : zx_M := (⟨"SortedBlocks$BlockReader", "unsort", "(LSortedBlocks$Block;)I"⟩, prog_6_method_15_code, 4, some .int)
abbrev M_BlockReader_findFollowers : zx_M := (⟨"SortedBlocks$BlockReader", "findFollowers", "(LSortedBlocks$Block;)V"⟩, prog_6_method_16_code, 5, none)
abbrev M_BlockReader_lengthen : zx_M := (⟨"SortedBlocks$BlockReader", "lengthen", "(LSortedBlocks$Block;LSortedBlocks$Row;)I"⟩, prog_6_method_17_code, 8, some .int)
abbrev M_BlockWriter_init : zx_M := (⟨"SortedBlocks$BlockWriter", "<init>", "(LSortedBlocks$Row;)V"⟩, prog_7_method_1_code, 3, none)
abbrev M_BlockWriter_writeHead : zx_M := (⟨"SortedBlocks$BlockWriter", "writeHead", "(I)V"⟩, prog_7_method_2_code, 2, none)
abbrev M_BlockWriter_writeEnd : zx_M := (⟨"SortedBlocks$BlockWriter", "writeEnd", "(I)V"⟩, prog_7_method_3_code, 2, none)
abbrev M_BlockWriter_writeBlock : zx_M := (⟨"SortedBlocks$BlockWriter", "writeBlock", "(LSortedBlocks$Block;)V"⟩, prog_7_method_4_code, 3, none)
abbrev M_BlockWriter_writeMap : zx_M := (⟨"SortedBlocks$BlockWriter", "writeMap", "(LSortedBlocks$Block;)V"⟩, prog_7_method_5_code, 5, none)
abbrev M_BlockWriter_writePicks : zx_M := (⟨"SortedBlocks$BlockWriter", "writePicks", "(LSortedBlocks$Block;)V"⟩, prog_7_method_6_code, 5, none)
abbrev M_BlockWriter_writeLengths : zx_M := (⟨"SortedBlocks$BlockWriter", "writeLengths", "([II)V"⟩, prog_7_method_7_code, 7, none)
abbrev M_BlockWriter_writeSymbols : zx_M := (⟨"SortedBlocks$BlockWriter", "writeSymbols", "(LSortedBlocks$Block;)V"⟩, prog_7_method_8_code, 5, none)
abbrev M_Codes_init : zx_M := (⟨"SortedBlocks$Codes", "<init>", "(I)V"⟩, prog_8_method_1_code, 2, none)
abbrev M_Codes_setTo : zx_M := (⟨"SortedBlocks$Codes", "setTo", "([II)V"⟩, prog_8_method_2_code, 6, none)
abbrev M_Codes_codeOf : zx_M := (⟨"SortedBlocks$Codes", "codeOf", "(I)I"⟩, prog_8_method_3_code, 2, some .int)
abbrev M_Codes_find : zx_M := (⟨"SortedBlocks$Codes", "find", "(II)I"⟩, prog_8_method_4_code, 4, some .int)
abbrev M_Codes_countLengths : zx_M := (⟨"SortedBlocks$Codes", "countLengths", "([II)V"⟩, prog_8_method_5_code, 4, none)
abbrev M_Codes_placeLengths : zx_M := (⟨"SortedBlocks$Codes", "placeLengths", "()V"⟩, prog_8_method_6_code, 4, none)
abbrev M_Codes_isLength : zx_M := (⟨"SortedBlocks$Codes", "isLength", "(I)Z"⟩, prog_8_method_7_code, 1, some .boolean)
abbrev M_Codes_mask : zx_M := (⟨"SortedBlocks$Codes", "mask", "(I)I"⟩, prog_8_method_8_code, 1, some .int)
abbrev M_MoveList_init : zx_M := (⟨"SortedBlocks$MoveList", "<init>", "()V"⟩, prog_9_method_1_code, 1, none)
abbrev M_MoveList_setTo : zx_M := (⟨"SortedBlocks$MoveList", "setTo", "([II)V"⟩, prog_9_method_2_code, 3, none)
abbrev M_MoveList_setToNumbers : zx_M := (⟨"SortedBlocks$MoveList", "setToNumbers", "(I)V"⟩, prog_9_method_3_code, 3, none)
abbrev M_MoveList_moveValue : zx_M := (⟨"SortedBlocks$MoveList", "moveValue", "(I)I"⟩, prog_9_method_4_code, 3, some .int)
abbrev M_MoveList_movePlace : zx_M := (⟨"SortedBlocks$MoveList", "movePlace", "(I)I"⟩, prog_9_method_5_code, 3, some .int)
abbrev M_Picker_init : zx_M := (⟨"SortedBlocks$Picker", "<init>", "()V"⟩, prog_10_method_1_code, 1, none)
abbrev M_Picker_pickTables : zx_M := (⟨"SortedBlocks$Picker", "pickTables", "(LSortedBlocks$Block;)V"⟩, prog_10_method_2_code, 4, none)
abbrev M_Picker_weigh : zx_M := (⟨"SortedBlocks$Picker", "weigh", "(LSortedBlocks$Block;I)V"⟩, prog_10_method_3_code, 4, none)
abbrev M_Picker_cheapest : zx_M := (⟨"SortedBlocks$Picker", "cheapest", "(LSortedBlocks$Block;I)I"⟩, prog_10_method_4_code, 5, some .int)
abbrev M_Picker_cost : zx_M := (⟨"SortedBlocks$Picker", "cost", "(LSortedBlocks$Block;II)I"⟩, prog_10_method_5_code, 7, some .int)
abbrev M_Row_init : zx_M := (⟨"SortedBlocks$Row", "<init>", "(I)V"⟩, prog_11_method_1_code, 2, none)
abbrev M_Row_hasRoom : zx_M := (⟨"SortedBlocks$Row", "hasRoom", "(I)Z"⟩, prog_11_method_2_code, 2, some .boolean)
abbrev M_Row_add : zx_M := (⟨"SortedBlocks$Row", "add", "(I)V"⟩, prog_11_method_3_code, 2, none)
abbrev M_Row_addAll : zx_M := (⟨"SortedBlocks$Row", "addAll", "(LSortedBlocks$Row;)V"⟩, prog_11_method_4_code, 2, none)
abbrev M_Row_cut : zx_M := (⟨"SortedBlocks$Row", "cut", "(I)V"⟩, prog_11_method_5_code, 2, none)
abbrev M_Row_get : zx_M := (⟨"SortedBlocks$Row", "get", "(I)I"⟩, prog_11_method_6_code, 2, some .int)
abbrev M_Row_turnBit : zx_M := (⟨"SortedBlocks$Row", "turnBit", "(I)V"⟩, prog_11_method_7_code, 2, none)
abbrev M_Trees_init : zx_M := (⟨"SortedBlocks$Trees", "<init>", "()V"⟩, prog_12_method_1_code, 1, none)
abbrev M_Trees_findLengths : zx_M := (⟨"SortedBlocks$Trees", "findLengths", "([II[I)V"⟩, prog_12_method_2_code, 4, none)
abbrev M_Trees_sortSymbols : zx_M := (⟨"SortedBlocks$Trees", "sortSymbols", "()V"⟩, prog_12_method_3_code, 3, none)
abbrev M_Trees_joinTrees : zx_M := (⟨"SortedBlocks$Trees", "joinTrees", "()V"⟩, prog_12_method_4_code, 4, none)
abbrev M_Trees_takeFirst : zx_M := (⟨"SortedBlocks$Trees", "takeFirst", "(I)I"⟩, prog_12_method_5_code, 4, some .int)
abbrev M_Trees_measureDepths : zx_M := (⟨"SortedBlocks$Trees", "measureDepths", "()V"⟩, prog_12_method_6_code, 3, none)
abbrev M_Law_feed : zx_M := (⟨"SortedBlocksLaw", "feed", "(LSortedBlocks;JI[J)I"⟩, method_3_code, 6, some .int)
abbrev M_Law_keep : zx_M := (⟨"SortedBlocksLaw", "keep", "(LSortedBlocks;I)I"⟩, method_4_code, 3, some .int)
abbrev M_Law_damage : zx_M := (⟨"SortedBlocksLaw", "damage", "(LSortedBlocks;I)I"⟩, method_5_code, 3, some .int)
abbrev M_Law_append : zx_M := (⟨"SortedBlocksLaw", "append", "(LSortedBlocks;[J)I"⟩, method_6_code, 3, some .int)
abbrev M_Law_pack : zx_M := (⟨"SortedBlocksLaw", "pack", "(LSortedBlocks;I[J)I"⟩, method_7_code, 4, some .int)
abbrev M_Law_unpack : zx_M := (⟨"SortedBlocksLaw", "unpack", "(LSortedBlocks;[J)I"⟩, method_8_code, 3, some .int)
abbrev M_Law_out : zx_M := (⟨"SortedBlocksLaw", "out", "(LSortedBlocks;I[J)I"⟩, method_9_code, 4, some .int)
abbrev M_Law_law : zx_M := (⟨"SortedBlocksLaw", "law", "([I)Z"⟩, code, maxLocals, ret)
abbrev M_Arrays_fill : zx_M := (⟨"java/util/Arrays", "fill", "([II)V"⟩, prog_25_method_103_code, 4, none)
end
section
theorem d_Main_init_0 : decode M_Main_init.2.1 0 = .ok (.aload_n 0, 1) := by decide +kernel
theorem d_Main_init_1 : decode M_Main_init.2.1 1 = .ok (.invokespecial 3, 3) := by decide +kernel
theorem d_Main_init_4 : decode M_Main_init.2.1 4 = .ok (.aload_n 0, 1) := by decide +kernel
theorem d_Main_init_5 : decode M_Main_init.2.1 5 = .ok (.new 9, 3) := by decide +kernel
theorem d_Main_init_8 : decode M_Main_init.2.1 8 = .ok (.dup, 1) := by decide +kernel
theorem d_Main_init_9 : decode M_Main_init.2.1 9 = .ok (.sipush 400, 3) := by decide +kernel
theorem d_Main_init_12 : decode M_Main_init.2.1 12 = .ok (.invokespecial 11, 3) := by decide +kernel
theorem d_Main_init_15 : decode M_Main_init.2.1 15 = .ok (.putfield 14, 3) := by decide +kernel
theorem d_Main_init_18 : decode M_Main_init.2.1 18 = .ok (.aload_n 0, 1) := by decide +kernel
theorem d_Main_init_19 : decode M_Main_init.2.1 19 = .ok (.new 9, 3) := by decide +kernel
theorem d_Main_init_22 : decode M_Main_init.2.1 22 = .ok (.dup, 1) := by decide +kernel
theorem d_Main_init_23 : decode M_Main_init.2.1 23 = .ok (.sipush 4600, 3) := by decide +kernel
theorem d_Main_init_26 : decode M_Main_init.2.1 26 = .ok (.invokespecial 11, 3) := by decide +kernel
theorem d_Main_init_29 : decode M_Main_init.2.1 29 = .ok (.putfield 18, 3) := by decide +kernel
theorem d_Main_init_32 : decode M_Main_init.2.1 32 = .ok (.aload_n 0, 1) := by decide +kernel
theorem d_Main_init_33 : decode M_Main_init.2.1 33 = .ok (.new 9, 3) := by decide +kernel
theorem d_Main_init_36 : decode M_Main_init.2.1 36 = .ok (.dup, 1) := by decide +kernel
theorem d_Main_init_37 : decode M_Main_init.2.1 37 = .ok (.sipush 2000, 3) := by decide +kernel
theorem d_Main_init_40 : decode M_Main_init.2.1 40 = .ok (.invokespecial 11, 3) := by decide +kernel
theorem d_Main_init_43 : decode M_Main_init.2.1 43 = .ok (.putfield 21, 3) := by decide +kernel
theorem d_Main_init_46 : decode M_Main_init.2.1 46 = .ok (.aload_n 0, 1) := by decide +kernel
theorem d_Main_init_47 : decode M_Main_init.2.1 47 = .ok (.new 24, 3) := by decide +kernel
theorem d_Main_init_50 : decode M_Main_init.2.1 50 = .ok (.dup, 1) := by decide +kernel
theorem d_Main_init_51 : decode M_Main_init.2.1 51 = .ok (.aload_n 0, 1) := by decide +kernel
theorem d_Main_init_52 : decode M_Main_init.2.1 52 = .ok (.getfield 14, 3) := by decide +kernel
theorem d_Main_init_55 : decode M_Main_init.2.1 55 = .ok (.invokespecial 26, 3) := by decide +kernel
theorem d_Main_init_58 : decode M_Main_init.2.1 58 = .ok (.putfield 29, 3) := by decide +kernel
theorem d_Main_init_61 : decode M_Main_init.2.1 61 = .ok (.aload_n 0, 1) := by decide +kernel
theorem d_Main_init_62 : decode M_Main_init.2.1 62 = .ok (.new 33, 3) := by decide +kernel
theorem d_Main_init_65 : decode M_Main_init.2.1 65 = .ok (.dup, 1) := by decide +kernel
theorem d_Main_init_66 : decode M_Main_init.2.1 66 = .ok (.aload_n 0, 1) := by decide +kernel
theorem d_Main_init_67 : decode M_Main_init.2.1 67 = .ok (.getfield 29, 3) := by decide +kernel
theorem d_Main_init_70 : decode M_Main_init.2.1 70 = .ok (.invokespecial 35, 3) := by decide +kernel
theorem d_Main_init_73 : decode M_Main_init.2.1 73 = .ok (.putfield 38, 3) := by decide +kernel
theorem d_Main_init_76 : decode M_Main_init.2.1 76 = .ok (.aload_n 0, 1) := by decide +kernel
theorem d_Main_init_77 : decode M_Main_init.2.1 77 = .ok (.new 42, 3) := by decide +kernel
theorem d_Main_init_80 : decode M_Main_init.2.1 80 = .ok (.dup, 1) := by decide +kernel
theorem d_Main_init_81 : decode M_Main_init.2.1 81 = .ok (.invokespecial 44, 3) := by decide +kernel
theorem d_Main_init_84 : decode M_Main_init.2.1 84 = .ok (.putfield 45, 3) := by decide +kernel
theorem d_Main_init_87 : decode M_Main_init.2.1 87 = .ok (.aload_n 0, 1) := by decide +kernel
theorem d_Main_init_88 : decode M_Main_init.2.1 88 = .ok (.new 49, 3) := by decide +kernel
theorem d_Main_init_91 : decode M_Main_init.2.1 91 = .ok (.dup, 1) := by decide +kernel
theorem d_Main_init_92 : decode M_Main_init.2.1 92 = .ok (.aload_n 0, 1) := by decide +kernel
theorem d_Main_init_93 : decode M_Main_init.2.1 93 = .ok (.getfield 18, 3) := by decide +kernel
theorem d_Main_init_96 : decode M_Main_init.2.1 96 = .ok (.invokespecial 51, 3) := by decide +kernel
theorem d_Main_init_99 : decode M_Main_init.2.1 99 = .ok (.putfield 52, 3) := by decide +kernel
theorem d_Main_init_102 : decode M_Main_init.2.1 102 = .ok (.aload_n 0, 1) := by decide +kernel
theorem d_Main_init_103 : decode M_Main_init.2.1 103 = .ok (.new 56, 3) := by decide +kernel
theorem d_Main_init_106 : decode M_Main_init.2.1 106 = .ok (.dup, 1) := by decide +kernel
theorem d_Main_init_107 : decode M_Main_init.2.1 107 = .ok (.invokespecial 58, 3) := by decide +kernel
theorem d_Main_init_110 : decode M_Main_init.2.1 110 = .ok (.putfield 59, 3) := by decide +kernel
theorem d_Main_init_113 : decode M_Main_init.2.1 113 = .ok (.aload_n 0, 1) := by decide +kernel
theorem d_Main_init_114 : decode M_Main_init.2.1 114 = .ok (.new 56, 3) := by decide +kernel
theorem d_Main_init_117 : decode M_Main_init.2.1 117 = .ok (.dup, 1) := by decide +kernel
theorem d_Main_init_118 : decode M_Main_init.2.1 118 = .ok (.invokespecial 58, 3) := by decide +kernel
theorem d_Main_init_121 : decode M_Main_init.2.1 121 = .ok (.putfield 63, 3) := by decide +kernel
theorem d_Main_init_124 : decode M_Main_init.2.1 124 = .ok (.aload_n 0, 1) := by decide +kernel
theorem d_Main_init_125 : decode M_Main_init.2.1 125 = .ok (.iconst 0, 1) := by decide +kernel
theorem d_Main_init_126 : decode M_Main_init.2.1 126 = .ok (.putfield 66, 3) := by decide +kernel
theorem d_Main_init_129 : decode M_Main_init.2.1 129 = .ok (.aload_n 0, 1) := by decide +kernel
theorem d_Main_init_130 : decode M_Main_init.2.1 130 = .ok (.iconst 0, 1) := by decide +kernel
theorem d_Main_init_131 : decode M_Main_init.2.1 131 = .ok (.putfield 70, 3) := by decide +kernel
theorem d_Main_init_134 : decode M_Main_init.2.1 134 = .ok (.aload_n 0, 1) := by decide +kernel
theorem d_Main_init_135 : decode M_Main_init.2.1 135 = .ok (.iconst (-1), 1) := by decide +kernel
theorem d_Main_init_136 : decode M_Main_init.2.1 136 = .ok (.putfield 73, 3) := by decide +kernel
theorem d_Main_init_139 : decode M_Main_init.2.1 139 = .ok (.return_, 1) := by decide +kernel
theorem d_Main_feed_0 : decode M_Main_feed.2.1 0 = .ok (.iload_n 3, 1) := by decide +kernel
theorem d_Main_feed_1 : decode M_Main_feed.2.1 1 = .ok (.iconst 1, 1) := by decide +kernel
theorem d_Main_feed_2 : decode M_Main_feed.2.1 2 = .ok (.if_icmp .lt 9, 3) := by decide +kernel
theorem d_Main_feed_5 : decode M_Main_feed.2.1 5 = .ok (.iload_n 3, 1) := by decide +kernel
theorem d_Main_feed_6 : decode M_Main_feed.2.1 6 = .ok (.bipush 8, 2) := by decide +kernel
theorem d_Main_feed_8 : decode M_Main_feed.2.1 8 = .ok (.if_icmp .le 13, 3) := by decide +kernel
theorem d_Main_feed_11 : decode M_Main_feed.2.1 11 = .ok (.new 76, 3) := by decide +kernel
theorem d_Main_feed_14 : decode M_Main_feed.2.1 14 = .ok (.dup, 1) := by decide +kernel
theorem d_Main_feed_15 : decode M_Main_feed.2.1 15 = .ok (.ldc 78, 2) := by decide +kernel
theorem d_Main_feed_17 : decode M_Main_feed.2.1 17 = .ok (.invokespecial 80, 3) := by decide +kernel
theorem d_Main_feed_20 : decode M_Main_feed.2.1 20 = .ok (.athrow, 1) := by decide +kernel
theorem d_Main_feed_21 : decode M_Main_feed.2.1 21 = .ok (.aload_n 0, 1) := by decide +kernel
theorem d_Main_feed_22 : decode M_Main_feed.2.1 22 = .ok (.getfield 14, 3) := by decide +kernel
theorem d_Main_feed_25 : decode M_Main_feed.2.1 25 = .ok (.iload_n 3, 1) := by decide +kernel
theorem d_Main_feed_26 : decode M_Main_feed.2.1 26 = .ok (.invokevirtual 83, 3) := by decide +kernel
theorem d_Main_feed_29 : decode M_Main_feed.2.1 29 = .ok (.ifCond .ne 13, 3) := by decide +kernel
theorem d_Main_feed_32 : decode M_Main_feed.2.1 32 = .ok (.new 87, 3) := by decide +kernel
theorem d_Main_feed_35 : decode M_Main_feed.2.1 35 = .ok (.dup, 1) := by decide +kernel
theorem d_Main_feed_36 : decode M_Main_feed.2.1 36 = .ok (.ldc 89, 2) := by decide +kernel
theorem d_Main_feed_38 : decode M_Main_feed.2.1 38 = .ok (.invokespecial 91, 3) := by decide +kernel
theorem d_Main_feed_41 : decode M_Main_feed.2.1 41 = .ok (.athrow, 1) := by decide +kernel
theorem d_Main_feed_42 : decode M_Main_feed.2.1 42 = .ok (.iload_n 3, 1) := by decide +kernel
theorem d_Main_feed_43 : decode M_Main_feed.2.1 43 = .ok (.iconst 1, 1) := by decide +kernel
theorem d_Main_feed_44 : decode M_Main_feed.2.1 44 = .ok (.isub, 1) := by decide +kernel
theorem d_Main_feed_45 : decode M_Main_feed.2.1 45 = .ok (.istore 4, 2) := by decide +kernel
theorem d_Main_feed_47 : decode M_Main_feed.2.1 47 = .ok (.iload 4, 2) := by decide +kernel
theorem d_Main_feed_49 : decode M_Main_feed.2.1 49 = .ok (.ifCond .lt 28, 3) := by decide +kernel
theorem d_Main_feed_52 : decode M_Main_feed.2.1 52 = .ok (.aload_n 0, 1) := by decide +kernel
theorem d_Main_feed_53 : decode M_Main_feed.2.1 53 = .ok (.getfield 14, 3) := by decide +kernel
theorem d_Main_feed_56 : decode M_Main_feed.2.1 56 = .ok (.lload_n 1, 1) := by decide +kernel
theorem d_Main_feed_57 : decode M_Main_feed.2.1 57 = .ok (.bipush 8, 2) := by decide +kernel
theorem d_Main_feed_59 : decode M_Main_feed.2.1 59 = .ok (.iload 4, 2) := by decide +kernel
theorem d_Main_feed_61 : decode M_Main_feed.2.1 61 = .ok (.imul, 1) := by decide +kernel
theorem d_Main_feed_62 : decode M_Main_feed.2.1 62 = .ok (.lushr, 1) := by decide +kernel
theorem d_Main_feed_63 : decode M_Main_feed.2.1 63 = .ok (.l2i, 1) := by decide +kernel
theorem d_Main_feed_64 : decode M_Main_feed.2.1 64 = .ok (.sipush 255, 3) := by decide +kernel
theorem d_Main_feed_67 : decode M_Main_feed.2.1 67 = .ok (.iand, 1) := by decide +kernel
theorem d_Main_feed_68 : decode M_Main_feed.2.1 68 = .ok (.invokevirtual 92, 3) := by decide +kernel
theorem d_Main_feed_71 : decode M_Main_feed.2.1 71 = .ok (.iinc 4 (-1), 3) := by decide +kernel
theorem d_Main_feed_74 : decode M_Main_feed.2.1 74 = .ok (.goto (-27), 3) := by decide +kernel
theorem d_Main_feed_77 : decode M_Main_feed.2.1 77 = .ok (.aload_n 0, 1) := by decide +kernel
theorem d_Main_feed_78 : decode M_Main_feed.2.1 78 = .ok (.getfield 14, 3) := by decide +kernel
theorem d_Main_feed_81 : decode M_Main_feed.2.1 81 = .ok (.getfield 95, 3) := by decide +kernel
theorem d_Main_feed_84 : decode M_Main_feed.2.1 84 = .ok (.ireturn, 1) := by decide +kernel
theorem d_Main_keep_0 : decode M_Main_keep.2.1 0 = .ok (.iload_n 1, 1) := by decide +kernel
theorem d_Main_keep_1 : decode M_Main_keep.2.1 1 = .ok (.ifCond .lt 14, 3) := by decide +kernel
theorem d_Main_keep_4 : decode M_Main_keep.2.1 4 = .ok (.iload_n 1, 1) := by decide +kernel
theorem d_Main_keep_5 : decode M_Main_keep.2.1 5 = .ok (.aload_n 0, 1) := by decide +kernel
theorem d_Main_keep_6 : decode M_Main_keep.2.1 6 = .ok (.getfield 14, 3) := by decide +kernel
theorem d_Main_keep_9 : decode M_Main_keep.2.1 9 = .ok (.getfield 95, 3) := by decide +kernel
theorem d_Main_keep_12 : decode M_Main_keep.2.1 12 = .ok (.if_icmp .le 13, 3) := by decide +kernel
theorem d_Main_keep_15 : decode M_Main_keep.2.1 15 = .ok (.new 76, 3) := by decide +kernel
theorem d_Main_keep_18 : decode M_Main_keep.2.1 18 = .ok (.dup, 1) := by decide +kernel
theorem d_Main_keep_19 : decode M_Main_keep.2.1 19 = .ok (.ldc 98, 2) := by decide +kernel
theorem d_Main_keep_21 : decode M_Main_keep.2.1 21 = .ok (.invokespecial 80, 3) := by decide +kernel
theorem d_Main_keep_24 : decode M_Main_keep.2.1 24 = .ok (.athrow, 1) := by decide +kernel
theorem d_Main_keep_25 : decode M_Main_keep.2.1 25 = .ok (.aload_n 0, 1) := by decide +kernel
theorem d_Main_keep_26 : decode M_Main_keep.2.1 26 = .ok (.getfield 14, 3) := by decide +kernel
theorem d_Main_keep_29 : decode M_Main_keep.2.1 29 = .ok (.iload_n 1, 1) := by decide +kernel
theorem d_Main_keep_30 : decode M_Main_keep.2.1 30 = .ok (.invokevirtual 100, 3) := by decide +kernel
theorem d_Main_keep_33 : decode M_Main_keep.2.1 33 = .ok (.return_, 1) := by decide +kernel
theorem d_Main_damage_0 : decode M_Main_damage.2.1 0 = .ok (.iload_n 1, 1) := by decide +kernel
theorem d_Main_damage_1 : decode M_Main_damage.2.1 1 = .ok (.ifCond .lt 17, 3) := by decide +kernel
theorem d_Main_damage_4 : decode M_Main_damage.2.1 4 = .ok (.iload_n 1, 1) := by decide +kernel
theorem d_Main_damage_5 : decode M_Main_damage.2.1 5 = .ok (.bipush 8, 2) := by decide +kernel
theorem d_Main_damage_7 : decode M_Main_damage.2.1 7 = .ok (.aload_n 0, 1) := by decide +kernel
theorem d_Main_damage_8 : decode M_Main_damage.2.1 8 = .ok (.getfield 14, 3) := by decide +kernel
theorem d_Main_damage_11 : decode M_Main_damage.2.1 11 = .ok (.getfield 95, 3) := by decide +kernel
theorem d_Main_damage_14 : decode M_Main_damage.2.1 14 = .ok (.imul, 1) := by decide +kernel
theorem d_Main_damage_15 : decode M_Main_damage.2.1 15 = .ok (.if_icmp .lt 13, 3) := by decide +kernel
theorem d_Main_damage_18 : decode M_Main_damage.2.1 18 = .ok (.new 103, 3) := by decide +kernel
theorem d_Main_damage_21 : decode M_Main_damage.2.1 21 = .ok (.dup, 1) := by decide +kernel
theorem d_Main_damage_22 : decode M_Main_damage.2.1 22 = .ok (.ldc 105, 2) := by decide +kernel
theorem d_Main_damage_24 : decode M_Main_damage.2.1 24 = .ok (.invokespecial 107, 3) := by decide +kernel
theorem d_Main_damage_27 : decode M_Main_damage.2.1 27 = .ok (.athrow, 1) := by decide +kernel
theorem d_Main_damage_28 : decode M_Main_damage.2.1 28 = .ok (.aload_n 0, 1) := by decide +kernel
theorem d_Main_damage_29 : decode M_Main_damage.2.1 29 = .ok (.getfield 14, 3) := by decide +kernel
theorem d_Main_damage_32 : decode M_Main_damage.2.1 32 = .ok (.iload_n 1, 1) := by decide +kernel
theorem d_Main_damage_33 : decode M_Main_damage.2.1 33 = .ok (.invokevirtual 108, 3) := by decide +kernel
theorem d_Main_damage_36 : decode M_Main_damage.2.1 36 = .ok (.return_, 1) := by decide +kernel
theorem d_Main_append_0 : decode M_Main_append.2.1 0 = .ok (.aload_n 0, 1) := by decide +kernel
theorem d_Main_append_1 : decode M_Main_append.2.1 1 = .ok (.getfield 14, 3) := by decide +kernel
theorem d_Main_append_4 : decode M_Main_append.2.1 4 = .ok (.aload_n 0, 1) := by decide +kernel
theorem d_Main_append_5 : decode M_Main_append.2.1 5 = .ok (.getfield 18, 3) := by decide +kernel
theorem d_Main_append_8 : decode M_Main_append.2.1 8 = .ok (.getfield 95, 3) := by decide +kernel
theorem d_Main_append_11 : decode M_Main_append.2.1 11 = .ok (.invokevirtual 83, 3) := by decide +kernel
theorem d_Main_append_14 : decode M_Main_append.2.1 14 = .ok (.ifCond .ne 13, 3) := by decide +kernel
theorem d_Main_append_17 : decode M_Main_append.2.1 17 = .ok (.new 87, 3) := by decide +kernel
theorem d_Main_append_20 : decode M_Main_append.2.1 20 = .ok (.dup, 1) := by decide +kernel
theorem d_Main_append_21 : decode M_Main_append.2.1 21 = .ok (.ldc 89, 2) := by decide +kernel
theorem d_Main_append_23 : decode M_Main_append.2.1 23 = .ok (.invokespecial 91, 3) := by decide +kernel
theorem d_Main_append_26 : decode M_Main_append.2.1 26 = .ok (.athrow, 1) := by decide +kernel
theorem d_Main_append_27 : decode M_Main_append.2.1 27 = .ok (.aload_n 0, 1) := by decide +kernel
theorem d_Main_append_28 : decode M_Main_append.2.1 28 = .ok (.getfield 14, 3) := by decide +kernel
theorem d_Main_append_31 : decode M_Main_append.2.1 31 = .ok (.aload_n 0, 1) := by decide +kernel
theorem d_Main_append_32 : decode M_Main_append.2.1 32 = .ok (.getfield 18, 3) := by decide +kernel
theorem d_Main_append_35 : decode M_Main_append.2.1 35 = .ok (.invokevirtual 111, 3) := by decide +kernel
theorem d_Main_append_38 : decode M_Main_append.2.1 38 = .ok (.aload_n 0, 1) := by decide +kernel
theorem d_Main_append_39 : decode M_Main_append.2.1 39 = .ok (.getfield 14, 3) := by decide +kernel
theorem d_Main_append_42 : decode M_Main_append.2.1 42 = .ok (.getfield 95, 3) := by decide +kernel
theorem d_Main_append_45 : decode M_Main_append.2.1 45 = .ok (.ireturn, 1) := by decide +kernel
theorem d_Main_pack_0 : decode M_Main_pack.2.1 0 = .ok (.iload_n 1, 1) := by decide +kernel
theorem d_Main_pack_1 : decode M_Main_pack.2.1 1 = .ok (.iconst 1, 1) := by decide +kernel
theorem d_Main_pack_2 : decode M_Main_pack.2.1 2 = .ok (.if_icmp .lt 9, 3) := by decide +kernel
theorem d_Main_pack_5 : decode M_Main_pack.2.1 5 = .ok (.iload_n 1, 1) := by decide +kernel
theorem d_Main_pack_6 : decode M_Main_pack.2.1 6 = .ok (.bipush 8, 2) := by decide +kernel
theorem d_Main_pack_8 : decode M_Main_pack.2.1 8 = .ok (.if_icmp .le 13, 3) := by decide +kernel
theorem d_Main_pack_11 : decode M_Main_pack.2.1 11 = .ok (.new 76, 3) := by decide +kernel
theorem d_Main_pack_14 : decode M_Main_pack.2.1 14 = .ok (.dup, 1) := by decide +kernel
theorem d_Main_pack_15 : decode M_Main_pack.2.1 15 = .ok (.ldc 114, 2) := by decide +kernel
theorem d_Main_pack_17 : decode M_Main_pack.2.1 17 = .ok (.invokespecial 80, 3) := by decide +kernel
theorem d_Main_pack_20 : decode M_Main_pack.2.1 20 = .ok (.athrow, 1) := by decide +kernel
theorem d_Main_pack_21 : decode M_Main_pack.2.1 21 = .ok (.aload_n 0, 1) := by decide +kernel
theorem d_Main_pack_22 : decode M_Main_pack.2.1 22 = .ok (.getfield 18, 3) := by decide +kernel
theorem d_Main_pack_25 : decode M_Main_pack.2.1 25 = .ok (.iconst 0, 1) := by decide +kernel
theorem d_Main_pack_26 : decode M_Main_pack.2.1 26 = .ok (.invokevirtual 100, 3) := by decide +kernel
theorem d_Main_pack_29 : decode M_Main_pack.2.1 29 = .ok (.aload_n 0, 1) := by decide +kernel
theorem d_Main_pack_30 : decode M_Main_pack.2.1 30 = .ok (.iconst 0, 1) := by decide +kernel
theorem d_Main_pack_31 : decode M_Main_pack.2.1 31 = .ok (.putfield 66, 3) := by decide +kernel
theorem d_Main_pack_34 : decode M_Main_pack.2.1 34 = .ok (.aload_n 0, 1) := by decide +kernel
theorem d_Main_pack_35 : decode M_Main_pack.2.1 35 = .ok (.getfield 52, 3) := by decide +kernel
theorem d_Main_pack_38 : decode M_Main_pack.2.1 38 = .ok (.iload_n 1, 1) := by decide +kernel
theorem d_Main_pack_39 : decode M_Main_pack.2.1 39 = .ok (.invokevirtual 116, 3) := by decide +kernel
theorem d_Main_pack_42 : decode M_Main_pack.2.1 42 = .ok (.iconst 0, 1) := by decide +kernel
theorem d_Main_pack_43 : decode M_Main_pack.2.1 43 = .ok (.istore_n 2, 1) := by decide +kernel
theorem d_Main_pack_44 : decode M_Main_pack.2.1 44 = .ok (.iconst 0, 1) := by decide +kernel
theorem d_Main_pack_45 : decode M_Main_pack.2.1 45 = .ok (.istore_n 3, 1) := by decide +kernel
theorem d_Main_pack_46 : decode M_Main_pack.2.1 46 = .ok (.iconst 0, 1) := by decide +kernel
theorem d_Main_pack_47 : decode M_Main_pack.2.1 47 = .ok (.istore 4, 2) := by decide +kernel
theorem d_Main_pack_49 : decode M_Main_pack.2.1 49 = .ok (.iload 4, 2) := by decide +kernel
theorem d_Main_pack_51 : decode M_Main_pack.2.1 51 = .ok (.sipush 400, 3) := by decide +kernel
theorem d_Main_pack_54 : decode M_Main_pack.2.1 54 = .ok (.if_icmp .ge 74, 3) := by decide +kernel
theorem d_Main_pack_57 : decode M_Main_pack.2.1 57 = .ok (.iload_n 3, 1) := by decide +kernel
theorem d_Main_pack_58 : decode M_Main_pack.2.1 58 = .ok (.aload_n 0, 1) := by decide +kernel
theorem d_Main_pack_59 : decode M_Main_pack.2.1 59 = .ok (.getfield 14, 3) := by decide +kernel
theorem d_Main_pack_62 : decode M_Main_pack.2.1 62 = .ok (.getfield 95, 3) := by decide +kernel
theorem d_Main_pack_65 : decode M_Main_pack.2.1 65 = .ok (.if_icmp .ge 63, 3) := by decide +kernel
theorem d_Main_pack_68 : decode M_Main_pack.2.1 68 = .ok (.aload_n 0, 1) := by decide +kernel
theorem d_Main_pack_69 : decode M_Main_pack.2.1 69 = .ok (.getfield 45, 3) := by decide +kernel
theorem d_Main_pack_72 : decode M_Main_pack.2.1 72 = .ok (.aload_n 0, 1) := by decide +kernel
theorem d_Main_pack_73 : decode M_Main_pack.2.1 73 = .ok (.getfield 59, 3) := by decide +kernel
theorem d_Main_pack_76 : decode M_Main_pack.2.1 76 = .ok (.aload_n 0, 1) := by decide +kernel
theorem d_Main_pack_77 : decode M_Main_pack.2.1 77 = .ok (.getfield 14, 3) := by decide +kernel
theorem d_Main_pack_80 : decode M_Main_pack.2.1 80 = .ok (.iload_n 3, 1) := by decide +kernel
theorem d_Main_pack_81 : decode M_Main_pack.2.1 81 = .ok (.bipush 8, 2) := by decide +kernel
theorem d_Main_pack_83 : decode M_Main_pack.2.1 83 = .ok (.iload_n 1, 1) := by decide +kernel
theorem d_Main_pack_84 : decode M_Main_pack.2.1 84 = .ok (.imul, 1) := by decide +kernel
theorem d_Main_pack_85 : decode M_Main_pack.2.1 85 = .ok (.invokevirtual 119, 3) := by decide +kernel
theorem d_Main_pack_88 : decode M_Main_pack.2.1 88 = .ok (.istore_n 3, 1) := by decide +kernel
theorem d_Main_pack_89 : decode M_Main_pack.2.1 89 = .ok (.aload_n 0, 1) := by decide +kernel
theorem d_Main_pack_90 : decode M_Main_pack.2.1 90 = .ok (.getfield 52, 3) := by decide +kernel
theorem d_Main_pack_93 : decode M_Main_pack.2.1 93 = .ok (.aload_n 0, 1) := by decide +kernel
theorem d_Main_pack_94 : decode M_Main_pack.2.1 94 = .ok (.getfield 59, 3) := by decide +kernel
theorem d_Main_pack_97 : decode M_Main_pack.2.1 97 = .ok (.invokevirtual 123, 3) := by decide +kernel
theorem d_Main_pack_100 : decode M_Main_pack.2.1 100 = .ok (.iload_n 2, 1) := by decide +kernel
theorem d_Main_pack_101 : decode M_Main_pack.2.1 101 = .ok (.aload_n 0, 1) := by decide +kernel
theorem d_Main_pack_102 : decode M_Main_pack.2.1 102 = .ok (.getfield 59, 3) := by decide +kernel
theorem d_Main_pack_105 : decode M_Main_pack.2.1 105 = .ok (.getfield 127, 3) := by decide +kernel
theorem d_Main_pack_108 : decode M_Main_pack.2.1 108 = .ok (.invokestatic 130, 3) := by decide +kernel
theorem d_Main_pack_111 : decode M_Main_pack.2.1 111 = .ok (.istore_n 2, 1) := by decide +kernel
theorem d_Main_pack_112 : decode M_Main_pack.2.1 112 = .ok (.aload_n 0, 1) := by decide +kernel
theorem d_Main_pack_113 : decode M_Main_pack.2.1 113 = .ok (.dup, 1) := by decide +kernel
theorem d_Main_pack_114 : decode M_Main_pack.2.1 114 = .ok (.getfield 66, 3) := by decide +kernel
theorem d_Main_pack_117 : decode M_Main_pack.2.1 117 = .ok (.iconst 1, 1) := by decide +kernel
theorem d_Main_pack_118 : decode M_Main_pack.2.1 118 = .ok (.iadd, 1) := by decide +kernel
theorem d_Main_pack_119 : decode M_Main_pack.2.1 119 = .ok (.putfield 66, 3) := by decide +kernel
theorem d_Main_pack_122 : decode M_Main_pack.2.1 122 = .ok (.iinc 4 1, 3) := by decide +kernel
theorem d_Main_pack_125 : decode M_Main_pack.2.1 125 = .ok (.goto (-76), 3) := by decide +kernel
theorem d_Main_pack_128 : decode M_Main_pack.2.1 128 = .ok (.aload_n 0, 1) := by decide +kernel
theorem d_Main_pack_129 : decode M_Main_pack.2.1 129 = .ok (.getfield 52, 3) := by decide +kernel
theorem d_Main_pack_132 : decode M_Main_pack.2.1 132 = .ok (.iload_n 2, 1) := by decide +kernel
theorem d_Main_pack_133 : decode M_Main_pack.2.1 133 = .ok (.invokevirtual 134, 3) := by decide +kernel
theorem d_Main_pack_136 : decode M_Main_pack.2.1 136 = .ok (.aload_n 0, 1) := by decide +kernel
theorem d_Main_pack_137 : decode M_Main_pack.2.1 137 = .ok (.getfield 18, 3) := by decide +kernel
theorem d_Main_pack_140 : decode M_Main_pack.2.1 140 = .ok (.getfield 95, 3) := by decide +kernel
theorem d_Main_pack_143 : decode M_Main_pack.2.1 143 = .ok (.ireturn, 1) := by decide +kernel
theorem d_Main_unpack_0 : decode M_Main_unpack.2.1 0 = .ok (.aload_n 0, 1) := by decide +kernel
theorem d_Main_unpack_1 : decode M_Main_unpack.2.1 1 = .ok (.iconst (-1), 1) := by decide +kernel
theorem d_Main_unpack_2 : decode M_Main_unpack.2.1 2 = .ok (.putfield 73, 3) := by decide +kernel
theorem d_Main_unpack_5 : decode M_Main_unpack.2.1 5 = .ok (.aload_n 0, 1) := by decide +kernel
theorem d_Main_unpack_6 : decode M_Main_unpack.2.1 6 = .ok (.iconst 0, 1) := by decide +kernel
theorem d_Main_unpack_7 : decode M_Main_unpack.2.1 7 = .ok (.putfield 70, 3) := by decide +kernel
theorem d_Main_unpack_10 : decode M_Main_unpack.2.1 10 = .ok (.aload_n 0, 1) := by decide +kernel
theorem d_Main_unpack_11 : decode M_Main_unpack.2.1 11 = .ok (.getfield 21, 3) := by decide +kernel
theorem d_Main_unpack_14 : decode M_Main_unpack.2.1 14 = .ok (.iconst 0, 1) := by decide +kernel
theorem d_Main_unpack_15 : decode M_Main_unpack.2.1 15 = .ok (.invokevirtual 100, 3) := by decide +kernel
theorem d_Main_unpack_18 : decode M_Main_unpack.2.1 18 = .ok (.aload_n 0, 1) := by decide +kernel
theorem d_Main_unpack_19 : decode M_Main_unpack.2.1 19 = .ok (.getfield 29, 3) := by decide +kernel
theorem d_Main_unpack_22 : decode M_Main_unpack.2.1 22 = .ok (.iconst 0, 1) := by decide +kernel
theorem d_Main_unpack_23 : decode M_Main_unpack.2.1 23 = .ok (.invokevirtual 137, 3) := by decide +kernel
theorem d_Main_unpack_26 : decode M_Main_unpack.2.1 26 = .ok (.aload_n 0, 1) := by decide +kernel
theorem d_Main_unpack_27 : decode M_Main_unpack.2.1 27 = .ok (.invokevirtual 140, 3) := by decide +kernel
theorem d_Main_unpack_30 : decode M_Main_unpack.2.1 30 = .ok (.istore_n 1, 1) := by decide +kernel
theorem d_Main_unpack_31 : decode M_Main_unpack.2.1 31 = .ok (.iconst 1, 1) := by decide +kernel
theorem d_Main_unpack_32 : decode M_Main_unpack.2.1 32 = .ok (.istore_n 2, 1) := by decide +kernel
theorem d_Main_unpack_33 : decode M_Main_unpack.2.1 33 = .ok (.iload_n 2, 1) := by decide +kernel
theorem d_Main_unpack_34 : decode M_Main_unpack.2.1 34 = .ok (.sipush 400, 3) := by decide +kernel
theorem d_Main_unpack_37 : decode M_Main_unpack.2.1 37 = .ok (.if_icmp .ge 28, 3) := by decide +kernel
theorem d_Main_unpack_40 : decode M_Main_unpack.2.1 40 = .ok (.iload_n 1, 1) := by decide +kernel
theorem d_Main_unpack_41 : decode M_Main_unpack.2.1 41 = .ok (.ifCond .ne 24, 3) := by decide +kernel
theorem d_Main_unpack_44 : decode M_Main_unpack.2.1 44 = .ok (.aload_n 0, 1) := by decide +kernel
theorem d_Main_unpack_45 : decode M_Main_unpack.2.1 45 = .ok (.getfield 29, 3) := by decide +kernel
theorem d_Main_unpack_48 : decode M_Main_unpack.2.1 48 = .ok (.invokevirtual 144, 3) := by decide +kernel
theorem d_Main_unpack_51 : decode M_Main_unpack.2.1 51 = .ok (.ifCond .ne 14, 3) := by decide +kernel
theorem d_Main_unpack_54 : decode M_Main_unpack.2.1 54 = .ok (.aload_n 0, 1) := by decide +kernel
theorem d_Main_unpack_55 : decode M_Main_unpack.2.1 55 = .ok (.invokevirtual 140, 3) := by decide +kernel
theorem d_Main_unpack_58 : decode M_Main_unpack.2.1 58 = .ok (.istore_n 1, 1) := by decide +kernel
theorem d_Main_unpack_59 : decode M_Main_unpack.2.1 59 = .ok (.iinc 2 1, 3) := by decide +kernel
theorem d_Main_unpack_62 : decode M_Main_unpack.2.1 62 = .ok (.goto (-29), 3) := by decide +kernel
theorem d_Main_unpack_65 : decode M_Main_unpack.2.1 65 = .ok (.iload_n 1, 1) := by decide +kernel
theorem d_Main_unpack_66 : decode M_Main_unpack.2.1 66 = .ok (.iconst 1, 1) := by decide +kernel
theorem d_Main_unpack_67 : decode M_Main_unpack.2.1 67 = .ok (.if_icmp .ne 13, 3) := by decide +kernel
theorem d_Main_unpack_70 : decode M_Main_unpack.2.1 70 = .ok (.new 148, 3) := by decide +kernel
theorem d_Main_unpack_73 : decode M_Main_unpack.2.1 73 = .ok (.dup, 1) := by decide +kernel
theorem d_Main_unpack_74 : decode M_Main_unpack.2.1 74 = .ok (.ldc 150, 2) := by decide +kernel
theorem d_Main_unpack_76 : decode M_Main_unpack.2.1 76 = .ok (.invokespecial 152, 3) := by decide +kernel
theorem d_Main_unpack_79 : decode M_Main_unpack.2.1 79 = .ok (.athrow, 1) := by decide +kernel
theorem d_Main_unpack_80 : decode M_Main_unpack.2.1 80 = .ok (.iload_n 1, 1) := by decide +kernel
theorem d_Main_unpack_81 : decode M_Main_unpack.2.1 81 = .ok (.ifCond .eq 16, 3) := by decide +kernel
theorem d_Main_unpack_84 : decode M_Main_unpack.2.1 84 = .ok (.aload_n 0, 1) := by decide +kernel
theorem d_Main_unpack_85 : decode M_Main_unpack.2.1 85 = .ok (.aload_n 0, 1) := by decide +kernel
theorem d_Main_unpack_86 : decode M_Main_unpack.2.1 86 = .ok (.getfield 29, 3) := by decide +kernel
theorem d_Main_unpack_89 : decode M_Main_unpack.2.1 89 = .ok (.getfield 153, 3) := by decide +kernel
theorem d_Main_unpack_92 : decode M_Main_unpack.2.1 92 = .ok (.putfield 73, 3) := by decide +kernel
theorem d_Main_unpack_95 : decode M_Main_unpack.2.1 95 = .ok (.iload_n 1, 1) := by decide +kernel
theorem d_Main_unpack_96 : decode M_Main_unpack.2.1 96 = .ok (.ireturn, 1) := by decide +kernel
theorem d_Main_unpack_97 : decode M_Main_unpack.2.1 97 = .ok (.aload_n 0, 1) := by decide +kernel
theorem d_Main_unpack_98 : decode M_Main_unpack.2.1 98 = .ok (.aload_n 0, 1) := by decide +kernel
theorem d_Main_unpack_99 : decode M_Main_unpack.2.1 99 = .ok (.getfield 70, 3) := by decide +kernel
theorem d_Main_unpack_102 : decode M_Main_unpack.2.1 102 = .ok (.putfield 66, 3) := by decide +kernel
theorem d_Main_unpack_105 : decode M_Main_unpack.2.1 105 = .ok (.aload_n 0, 1) := by decide +kernel
theorem d_Main_unpack_106 : decode M_Main_unpack.2.1 106 = .ok (.getfield 66, 3) := by decide +kernel
theorem d_Main_unpack_109 : decode M_Main_unpack.2.1 109 = .ok (.ifCond .le 7, 3) := by decide +kernel
theorem d_Main_unpack_112 : decode M_Main_unpack.2.1 112 = .ok (.aload_n 0, 1) := by decide +kernel
theorem d_Main_unpack_113 : decode M_Main_unpack.2.1 113 = .ok (.invokevirtual 156, 3) := by decide +kernel
theorem d_Main_unpack_116 : decode M_Main_unpack.2.1 116 = .ok (.aload_n 0, 1) := by decide +kernel
theorem d_Main_unpack_117 : decode M_Main_unpack.2.1 117 = .ok (.invokevirtual 159, 3) := by decide +kernel
theorem d_Main_unpack_120 : decode M_Main_unpack.2.1 120 = .ok (.aload_n 0, 1) := by decide +kernel
theorem d_Main_unpack_121 : decode M_Main_unpack.2.1 121 = .ok (.getfield 18, 3) := by decide +kernel
theorem d_Main_unpack_124 : decode M_Main_unpack.2.1 124 = .ok (.getfield 95, 3) := by decide +kernel
theorem d_Main_unpack_127 : decode M_Main_unpack.2.1 127 = .ok (.ireturn, 1) := by decide +kernel
theorem d_Main_at_0 : decode M_Main_at.2.1 0 = .ok (.aload_n 0, 1) := by decide +kernel
theorem d_Main_at_1 : decode M_Main_at.2.1 1 = .ok (.getfield 73, 3) := by decide +kernel
theorem d_Main_at_4 : decode M_Main_at.2.1 4 = .ok (.ireturn, 1) := by decide +kernel
theorem d_Main_rescue_0 : decode M_Main_rescue.2.1 0 = .ok (.aload_n 0, 1) := by decide +kernel
theorem d_Main_rescue_1 : decode M_Main_rescue.2.1 1 = .ok (.getfield 21, 3) := by decide +kernel
theorem d_Main_rescue_4 : decode M_Main_rescue.2.1 4 = .ok (.iconst 0, 1) := by decide +kernel
theorem d_Main_rescue_5 : decode M_Main_rescue.2.1 5 = .ok (.invokevirtual 100, 3) := by decide +kernel
theorem d_Main_rescue_8 : decode M_Main_rescue.2.1 8 = .ok (.aload_n 0, 1) := by decide +kernel
theorem d_Main_rescue_9 : decode M_Main_rescue.2.1 9 = .ok (.iconst 0, 1) := by decide +kernel
theorem d_Main_rescue_10 : decode M_Main_rescue.2.1 10 = .ok (.putfield 66, 3) := by decide +kernel
theorem d_Main_rescue_13 : decode M_Main_rescue.2.1 13 = .ok (.iconst 0, 1) := by decide +kernel
theorem d_Main_rescue_14 : decode M_Main_rescue.2.1 14 = .ok (.istore_n 1, 1) := by decide +kernel
theorem d_Main_rescue_15 : decode M_Main_rescue.2.1 15 = .ok (.iconst 0, 1) := by decide +kernel
theorem d_Main_rescue_16 : decode M_Main_rescue.2.1 16 = .ok (.istore_n 2, 1) := by decide +kernel
theorem d_Main_rescue_17 : decode M_Main_rescue.2.1 17 = .ok (.iload_n 2, 1) := by decide +kernel
theorem d_Main_rescue_18 : decode M_Main_rescue.2.1 18 = .ok (.sipush 3200, 3) := by decide +kernel
theorem d_Main_rescue_21 : decode M_Main_rescue.2.1 21 = .ok (.if_icmp .ge 75, 3) := by decide +kernel
theorem d_Main_rescue_24 : decode M_Main_rescue.2.1 24 = .ok (.aload_n 0, 1) := by decide +kernel
theorem d_Main_rescue_25 : decode M_Main_rescue.2.1 25 = .ok (.getfield 29, 3) := by decide +kernel
theorem d_Main_rescue_28 : decode M_Main_rescue.2.1 28 = .ok (.iload_n 1, 1) := by decide +kernel
theorem d_Main_rescue_29 : decode M_Main_rescue.2.1 29 = .ok (.invokevirtual 162, 3) := by decide +kernel
theorem d_Main_rescue_32 : decode M_Main_rescue.2.1 32 = .ok (.ifCond .eq 64, 3) := by decide +kernel
theorem d_Main_rescue_35 : decode M_Main_rescue.2.1 35 = .ok (.aload_n 0, 1) := by decide +kernel
theorem d_Main_rescue_36 : decode M_Main_rescue.2.1 36 = .ok (.getfield 29, 3) := by decide +kernel
theorem d_Main_rescue_39 : decode M_Main_rescue.2.1 39 = .ok (.getfield 165, 3) := by decide +kernel
theorem d_Main_rescue_42 : decode M_Main_rescue.2.1 42 = .ok (.bipush 24, 2) := by decide +kernel
theorem d_Main_rescue_44 : decode M_Main_rescue.2.1 44 = .ok (.isub, 1) := by decide +kernel
theorem d_Main_rescue_45 : decode M_Main_rescue.2.1 45 = .ok (.iconst 1, 1) := by decide +kernel
theorem d_Main_rescue_46 : decode M_Main_rescue.2.1 46 = .ok (.iadd, 1) := by decide +kernel
theorem d_Main_rescue_47 : decode M_Main_rescue.2.1 47 = .ok (.istore_n 1, 1) := by decide +kernel
theorem d_Main_rescue_48 : decode M_Main_rescue.2.1 48 = .ok (.aload_n 0, 1) := by decide +kernel
theorem d_Main_rescue_49 : decode M_Main_rescue.2.1 49 = .ok (.getfield 38, 3) := by decide +kernel
theorem d_Main_rescue_52 : decode M_Main_rescue.2.1 52 = .ok (.aload_n 0, 1) := by decide +kernel
theorem d_Main_rescue_53 : decode M_Main_rescue.2.1 53 = .ok (.getfield 63, 3) := by decide +kernel
theorem d_Main_rescue_56 : decode M_Main_rescue.2.1 56 = .ok (.bipush 64, 2) := by decide +kernel
theorem d_Main_rescue_58 : decode M_Main_rescue.2.1 58 = .ok (.aload_n 0, 1) := by decide +kernel
theorem d_Main_rescue_59 : decode M_Main_rescue.2.1 59 = .ok (.getfield 21, 3) := by decide +kernel
theorem d_Main_rescue_62 : decode M_Main_rescue.2.1 62 = .ok (.invokevirtual 168, 3) := by decide +kernel
theorem d_Main_rescue_65 : decode M_Main_rescue.2.1 65 = .ok (.ifCond .ne 25, 3) := by decide +kernel
theorem d_Main_rescue_68 : decode M_Main_rescue.2.1 68 = .ok (.aload_n 0, 1) := by decide +kernel
theorem d_Main_rescue_69 : decode M_Main_rescue.2.1 69 = .ok (.invokevirtual 156, 3) := by decide +kernel
theorem d_Main_rescue_72 : decode M_Main_rescue.2.1 72 = .ok (.aload_n 0, 1) := by decide +kernel
theorem d_Main_rescue_73 : decode M_Main_rescue.2.1 73 = .ok (.dup, 1) := by decide +kernel
theorem d_Main_rescue_74 : decode M_Main_rescue.2.1 74 = .ok (.getfield 66, 3) := by decide +kernel
theorem d_Main_rescue_77 : decode M_Main_rescue.2.1 77 = .ok (.iconst 1, 1) := by decide +kernel
theorem d_Main_rescue_78 : decode M_Main_rescue.2.1 78 = .ok (.iadd, 1) := by decide +kernel
theorem d_Main_rescue_79 : decode M_Main_rescue.2.1 79 = .ok (.putfield 66, 3) := by decide +kernel
theorem d_Main_rescue_82 : decode M_Main_rescue.2.1 82 = .ok (.aload_n 0, 1) := by decide +kernel
theorem d_Main_rescue_83 : decode M_Main_rescue.2.1 83 = .ok (.getfield 29, 3) := by decide +kernel
theorem d_Main_rescue_86 : decode M_Main_rescue.2.1 86 = .ok (.getfield 165, 3) := by decide +kernel
theorem d_Main_rescue_89 : decode M_Main_rescue.2.1 89 = .ok (.istore_n 1, 1) := by decide +kernel
theorem d_Main_rescue_90 : decode M_Main_rescue.2.1 90 = .ok (.iinc 2 1, 3) := by decide +kernel
theorem d_Main_rescue_93 : decode M_Main_rescue.2.1 93 = .ok (.goto (-76), 3) := by decide +kernel
theorem d_Main_rescue_96 : decode M_Main_rescue.2.1 96 = .ok (.aload_n 0, 1) := by decide +kernel
theorem d_Main_rescue_97 : decode M_Main_rescue.2.1 97 = .ok (.invokevirtual 159, 3) := by decide +kernel
theorem d_Main_rescue_100 : decode M_Main_rescue.2.1 100 = .ok (.aload_n 0, 1) := by decide +kernel
theorem d_Main_rescue_101 : decode M_Main_rescue.2.1 101 = .ok (.getfield 66, 3) := by decide +kernel
theorem d_Main_rescue_104 : decode M_Main_rescue.2.1 104 = .ok (.ireturn, 1) := by decide +kernel
theorem d_Main_given_0 : decode M_Main_given.2.1 0 = .ok (.aload_n 0, 1) := by decide +kernel
theorem d_Main_given_1 : decode M_Main_given.2.1 1 = .ok (.getfield 14, 3) := by decide +kernel
theorem d_Main_given_4 : decode M_Main_given.2.1 4 = .ok (.getfield 95, 3) := by decide +kernel
theorem d_Main_given_7 : decode M_Main_given.2.1 7 = .ok (.ireturn, 1) := by decide +kernel
theorem d_Main_size_0 : decode M_Main_size.2.1 0 = .ok (.aload_n 0, 1) := by decide +kernel
theorem d_Main_size_1 : decode M_Main_size.2.1 1 = .ok (.getfield 18, 3) := by decide +kernel
theorem d_Main_size_4 : decode M_Main_size.2.1 4 = .ok (.getfield 95, 3) := by decide +kernel
theorem d_Main_size_7 : decode M_Main_size.2.1 7 = .ok (.ireturn, 1) := by decide +kernel
theorem d_Main_out_0 : decode M_Main_out.2.1 0 = .ok (.iload_n 1, 1) := by decide +kernel
theorem d_Main_out_1 : decode M_Main_out.2.1 1 = .ok (.ifCond .lt 14, 3) := by decide +kernel
theorem d_Main_out_4 : decode M_Main_out.2.1 4 = .ok (.iload_n 1, 1) := by decide +kernel
theorem d_Main_out_5 : decode M_Main_out.2.1 5 = .ok (.aload_n 0, 1) := by decide +kernel
theorem d_Main_out_6 : decode M_Main_out.2.1 6 = .ok (.getfield 18, 3) := by decide +kernel
theorem d_Main_out_9 : decode M_Main_out.2.1 9 = .ok (.getfield 95, 3) := by decide +kernel
theorem d_Main_out_12 : decode M_Main_out.2.1 12 = .ok (.if_icmp .lt 13, 3) := by decide +kernel
theorem d_Main_out_15 : decode M_Main_out.2.1 15 = .ok (.new 103, 3) := by decide +kernel
theorem d_Main_out_18 : decode M_Main_out.2.1 18 = .ok (.dup, 1) := by decide +kernel
theorem d_Main_out_19 : decode M_Main_out.2.1 19 = .ok (.ldc 172, 2) := by decide +kernel
theorem d_Main_out_21 : decode M_Main_out.2.1 21 = .ok (.invokespecial 107, 3) := by decide +kernel
theorem d_Main_out_24 : decode M_Main_out.2.1 24 = .ok (.athrow, 1) := by decide +kernel
theorem d_Main_out_25 : decode M_Main_out.2.1 25 = .ok (.aload_n 0, 1) := by decide +kernel
theorem d_Main_out_26 : decode M_Main_out.2.1 26 = .ok (.getfield 18, 3) := by decide +kernel
theorem d_Main_out_29 : decode M_Main_out.2.1 29 = .ok (.iload_n 1, 1) := by decide +kernel
theorem d_Main_out_30 : decode M_Main_out.2.1 30 = .ok (.invokevirtual 174, 3) := by decide +kernel
theorem d_Main_out_33 : decode M_Main_out.2.1 33 = .ok (.ireturn, 1) := by decide +kernel
theorem d_Main_blocks_0 : decode M_Main_blocks.2.1 0 = .ok (.aload_n 0, 1) := by decide +kernel
theorem d_Main_blocks_1 : decode M_Main_blocks.2.1 1 = .ok (.getfield 66, 3) := by decide +kernel
theorem d_Main_blocks_4 : decode M_Main_blocks.2.1 4 = .ok (.ireturn, 1) := by decide +kernel
theorem d_Main_block_0 : decode M_Main_block.2.1 0 = .ok (.aload_n 0, 1) := by decide +kernel
theorem d_Main_block_1 : decode M_Main_block.2.1 1 = .ok (.getfield 66, 3) := by decide +kernel
theorem d_Main_block_4 : decode M_Main_block.2.1 4 = .ok (.ifCond .ne 5, 3) := by decide +kernel
theorem d_Main_block_7 : decode M_Main_block.2.1 7 = .ok (.iconst (-1), 1) := by decide +kernel
theorem d_Main_block_8 : decode M_Main_block.2.1 8 = .ok (.ireturn, 1) := by decide +kernel
theorem d_Main_block_9 : decode M_Main_block.2.1 9 = .ok (.iload_n 1, 1) := by decide +kernel
theorem d_Main_block_10 : decode M_Main_block.2.1 10 = .ok (.tableswitch 74 0 4 #[34, 42, 50, 58, 66], 34) := by decide +kernel
theorem d_Main_block_44 : decode M_Main_block.2.1 44 = .ok (.aload_n 0, 1) := by decide +kernel
theorem d_Main_block_45 : decode M_Main_block.2.1 45 = .ok (.getfield 59, 3) := by decide +kernel
theorem d_Main_block_48 : decode M_Main_block.2.1 48 = .ok (.getfield 178, 3) := by decide +kernel
theorem d_Main_block_51 : decode M_Main_block.2.1 51 = .ok (.ireturn, 1) := by decide +kernel
theorem d_Main_block_52 : decode M_Main_block.2.1 52 = .ok (.aload_n 0, 1) := by decide +kernel
theorem d_Main_block_53 : decode M_Main_block.2.1 53 = .ok (.getfield 59, 3) := by decide +kernel
theorem d_Main_block_56 : decode M_Main_block.2.1 56 = .ok (.getfield 181, 3) := by decide +kernel
theorem d_Main_block_59 : decode M_Main_block.2.1 59 = .ok (.ireturn, 1) := by decide +kernel
theorem d_Main_block_60 : decode M_Main_block.2.1 60 = .ok (.aload_n 0, 1) := by decide +kernel
theorem d_Main_block_61 : decode M_Main_block.2.1 61 = .ok (.getfield 59, 3) := by decide +kernel
theorem d_Main_block_64 : decode M_Main_block.2.1 64 = .ok (.getfield 182, 3) := by decide +kernel
theorem d_Main_block_67 : decode M_Main_block.2.1 67 = .ok (.ireturn, 1) := by decide +kernel
theorem d_Main_block_68 : decode M_Main_block.2.1 68 = .ok (.aload_n 0, 1) := by decide +kernel
theorem d_Main_block_69 : decode M_Main_block.2.1 69 = .ok (.getfield 59, 3) := by decide +kernel
theorem d_Main_block_72 : decode M_Main_block.2.1 72 = .ok (.getfield 185, 3) := by decide +kernel
theorem d_Main_block_75 : decode M_Main_block.2.1 75 = .ok (.ireturn, 1) := by decide +kernel
theorem d_Main_block_76 : decode M_Main_block.2.1 76 = .ok (.aload_n 0, 1) := by decide +kernel
theorem d_Main_block_77 : decode M_Main_block.2.1 77 = .ok (.getfield 59, 3) := by decide +kernel
theorem d_Main_block_80 : decode M_Main_block.2.1 80 = .ok (.getfield 127, 3) := by decide +kernel
theorem d_Main_block_83 : decode M_Main_block.2.1 83 = .ok (.ireturn, 1) := by decide +kernel
theorem d_Main_block_84 : decode M_Main_block.2.1 84 = .ok (.iconst (-1), 1) := by decide +kernel
theorem d_Main_block_85 : decode M_Main_block.2.1 85 = .ok (.ireturn, 1) := by decide +kernel
theorem d_Main_last_0 : decode M_Main_last.2.1 0 = .ok (.aload_n 0, 1) := by decide +kernel
theorem d_Main_last_1 : decode M_Main_last.2.1 1 = .ok (.getfield 66, 3) := by decide +kernel
theorem d_Main_last_4 : decode M_Main_last.2.1 4 = .ok (.ifCond .le 30, 3) := by decide +kernel
theorem d_Main_last_7 : decode M_Main_last.2.1 7 = .ok (.iload_n 1, 1) := by decide +kernel
theorem d_Main_last_8 : decode M_Main_last.2.1 8 = .ok (.ifCond .lt 26, 3) := by decide +kernel
theorem d_Main_last_11 : decode M_Main_last.2.1 11 = .ok (.iload_n 1, 1) := by decide +kernel
theorem d_Main_last_12 : decode M_Main_last.2.1 12 = .ok (.aload_n 0, 1) := by decide +kernel
theorem d_Main_last_13 : decode M_Main_last.2.1 13 = .ok (.getfield 59, 3) := by decide +kernel
theorem d_Main_last_16 : decode M_Main_last.2.1 16 = .ok (.getfield 181, 3) := by decide +kernel
theorem d_Main_last_19 : decode M_Main_last.2.1 19 = .ok (.if_icmp .ge 15, 3) := by decide +kernel
theorem d_Main_last_22 : decode M_Main_last.2.1 22 = .ok (.aload_n 0, 1) := by decide +kernel
theorem d_Main_last_23 : decode M_Main_last.2.1 23 = .ok (.getfield 59, 3) := by decide +kernel
theorem d_Main_last_26 : decode M_Main_last.2.1 26 = .ok (.getfield 188, 3) := by decide +kernel
theorem d_Main_last_29 : decode M_Main_last.2.1 29 = .ok (.iload_n 1, 1) := by decide +kernel
theorem d_Main_last_30 : decode M_Main_last.2.1 30 = .ok (.iaload, 1) := by decide +kernel
theorem d_Main_last_31 : decode M_Main_last.2.1 31 = .ok (.goto 4, 3) := by decide +kernel
theorem d_Main_last_34 : decode M_Main_last.2.1 34 = .ok (.iconst (-1), 1) := by decide +kernel
theorem d_Main_last_35 : decode M_Main_last.2.1 35 = .ok (.ireturn, 1) := by decide +kernel
theorem d_Main_symbol_0 : decode M_Main_symbol.2.1 0 = .ok (.aload_n 0, 1) := by decide +kernel
theorem d_Main_symbol_1 : decode M_Main_symbol.2.1 1 = .ok (.getfield 66, 3) := by decide +kernel
theorem d_Main_symbol_4 : decode M_Main_symbol.2.1 4 = .ok (.ifCond .le 30, 3) := by decide +kernel
theorem d_Main_symbol_7 : decode M_Main_symbol.2.1 7 = .ok (.iload_n 1, 1) := by decide +kernel
theorem d_Main_symbol_8 : decode M_Main_symbol.2.1 8 = .ok (.ifCond .lt 26, 3) := by decide +kernel
theorem d_Main_symbol_11 : decode M_Main_symbol.2.1 11 = .ok (.iload_n 1, 1) := by decide +kernel
theorem d_Main_symbol_12 : decode M_Main_symbol.2.1 12 = .ok (.aload_n 0, 1) := by decide +kernel
theorem d_Main_symbol_13 : decode M_Main_symbol.2.1 13 = .ok (.getfield 59, 3) := by decide +kernel
theorem d_Main_symbol_16 : decode M_Main_symbol.2.1 16 = .ok (.getfield 182, 3) := by decide +kernel
theorem d_Main_symbol_19 : decode M_Main_symbol.2.1 19 = .ok (.if_icmp .ge 15, 3) := by decide +kernel
theorem d_Main_symbol_22 : decode M_Main_symbol.2.1 22 = .ok (.aload_n 0, 1) := by decide +kernel
theorem d_Main_symbol_23 : decode M_Main_symbol.2.1 23 = .ok (.getfield 59, 3) := by decide +kernel
theorem d_Main_symbol_26 : decode M_Main_symbol.2.1 26 = .ok (.getfield 192, 3) := by decide +kernel
theorem d_Main_symbol_29 : decode M_Main_symbol.2.1 29 = .ok (.iload_n 1, 1) := by decide +kernel
theorem d_Main_symbol_30 : decode M_Main_symbol.2.1 30 = .ok (.iaload, 1) := by decide +kernel
theorem d_Main_symbol_31 : decode M_Main_symbol.2.1 31 = .ok (.goto 4, 3) := by decide +kernel
theorem d_Main_symbol_34 : decode M_Main_symbol.2.1 34 = .ok (.iconst (-1), 1) := by decide +kernel
theorem d_Main_symbol_35 : decode M_Main_symbol.2.1 35 = .ok (.ireturn, 1) := by decide +kernel
theorem d_Main_length_0 : decode M_Main_length.2.1 0 = .ok (.aload_n 0, 1) := by decide +kernel
theorem d_Main_length_1 : decode M_Main_length.2.1 1 = .ok (.getfield 66, 3) := by decide +kernel
theorem d_Main_length_4 : decode M_Main_length.2.1 4 = .ok (.ifCond .le 37, 3) := by decide +kernel
theorem d_Main_length_7 : decode M_Main_length.2.1 7 = .ok (.iload_n 1, 1) := by decide +kernel
theorem d_Main_length_8 : decode M_Main_length.2.1 8 = .ok (.ifCond .lt 33, 3) := by decide +kernel
theorem d_Main_length_11 : decode M_Main_length.2.1 11 = .ok (.iload_n 1, 1) := by decide +kernel
theorem d_Main_length_12 : decode M_Main_length.2.1 12 = .ok (.aload_n 0, 1) := by decide +kernel
theorem d_Main_length_13 : decode M_Main_length.2.1 13 = .ok (.getfield 59, 3) := by decide +kernel
theorem d_Main_length_16 : decode M_Main_length.2.1 16 = .ok (.getfield 185, 3) := by decide +kernel
theorem d_Main_length_19 : decode M_Main_length.2.1 19 = .ok (.if_icmp .ge 22, 3) := by decide +kernel
theorem d_Main_length_22 : decode M_Main_length.2.1 22 = .ok (.iload_n 2, 1) := by decide +kernel
theorem d_Main_length_23 : decode M_Main_length.2.1 23 = .ok (.ifCond .lt 18, 3) := by decide +kernel
theorem d_Main_length_26 : decode M_Main_length.2.1 26 = .ok (.iload_n 2, 1) := by decide +kernel
theorem d_Main_length_27 : decode M_Main_length.2.1 27 = .ok (.aload_n 0, 1) := by decide +kernel
theorem d_Main_length_28 : decode M_Main_length.2.1 28 = .ok (.getfield 59, 3) := by decide +kernel
theorem d_Main_length_31 : decode M_Main_length.2.1 31 = .ok (.invokevirtual 195, 3) := by decide +kernel
theorem d_Main_length_34 : decode M_Main_length.2.1 34 = .ok (.if_icmp .ge 7, 3) := by decide +kernel
theorem d_Main_length_37 : decode M_Main_length.2.1 37 = .ok (.iconst 1, 1) := by decide +kernel
theorem d_Main_length_38 : decode M_Main_length.2.1 38 = .ok (.goto 4, 3) := by decide +kernel
theorem d_Main_length_41 : decode M_Main_length.2.1 41 = .ok (.iconst 0, 1) := by decide +kernel
theorem d_Main_length_42 : decode M_Main_length.2.1 42 = .ok (.istore_n 3, 1) := by decide +kernel
theorem d_Main_length_43 : decode M_Main_length.2.1 43 = .ok (.iload_n 3, 1) := by decide +kernel
theorem d_Main_length_44 : decode M_Main_length.2.1 44 = .ok (.ifCond .eq 17, 3) := by decide +kernel
theorem d_Main_length_47 : decode M_Main_length.2.1 47 = .ok (.aload_n 0, 1) := by decide +kernel
theorem d_Main_length_48 : decode M_Main_length.2.1 48 = .ok (.getfield 59, 3) := by decide +kernel
theorem d_Main_length_51 : decode M_Main_length.2.1 51 = .ok (.getfield 198, 3) := by decide +kernel
theorem d_Main_length_54 : decode M_Main_length.2.1 54 = .ok (.iload_n 1, 1) := by decide +kernel
theorem d_Main_length_55 : decode M_Main_length.2.1 55 = .ok (.aaload, 1) := by decide +kernel
theorem d_Main_length_56 : decode M_Main_length.2.1 56 = .ok (.iload_n 2, 1) := by decide +kernel
theorem d_Main_length_57 : decode M_Main_length.2.1 57 = .ok (.iaload, 1) := by decide +kernel
theorem d_Main_length_58 : decode M_Main_length.2.1 58 = .ok (.goto 4, 3) := by decide +kernel
theorem d_Main_length_61 : decode M_Main_length.2.1 61 = .ok (.iconst (-1), 1) := by decide +kernel
theorem d_Main_length_62 : decode M_Main_length.2.1 62 = .ok (.ireturn, 1) := by decide +kernel
theorem d_Main_table_0 : decode M_Main_table.2.1 0 = .ok (.aload_n 0, 1) := by decide +kernel
theorem d_Main_table_1 : decode M_Main_table.2.1 1 = .ok (.getfield 66, 3) := by decide +kernel
theorem d_Main_table_4 : decode M_Main_table.2.1 4 = .ok (.ifCond .le 30, 3) := by decide +kernel
theorem d_Main_table_7 : decode M_Main_table.2.1 7 = .ok (.iload_n 1, 1) := by decide +kernel
theorem d_Main_table_8 : decode M_Main_table.2.1 8 = .ok (.ifCond .lt 26, 3) := by decide +kernel
theorem d_Main_table_11 : decode M_Main_table.2.1 11 = .ok (.iload_n 1, 1) := by decide +kernel
theorem d_Main_table_12 : decode M_Main_table.2.1 12 = .ok (.aload_n 0, 1) := by decide +kernel
theorem d_Main_table_13 : decode M_Main_table.2.1 13 = .ok (.getfield 59, 3) := by decide +kernel
theorem d_Main_table_16 : decode M_Main_table.2.1 16 = .ok (.getfield 202, 3) := by decide +kernel
theorem d_Main_table_19 : decode M_Main_table.2.1 19 = .ok (.if_icmp .ge 15, 3) := by decide +kernel
theorem d_Main_table_22 : decode M_Main_table.2.1 22 = .ok (.aload_n 0, 1) := by decide +kernel
theorem d_Main_table_23 : decode M_Main_table.2.1 23 = .ok (.getfield 59, 3) := by decide +kernel
theorem d_Main_table_26 : decode M_Main_table.2.1 26 = .ok (.getfield 205, 3) := by decide +kernel
theorem d_Main_table_29 : decode M_Main_table.2.1 29 = .ok (.iload_n 1, 1) := by decide +kernel
theorem d_Main_table_30 : decode M_Main_table.2.1 30 = .ok (.iaload, 1) := by decide +kernel
theorem d_Main_table_31 : decode M_Main_table.2.1 31 = .ok (.goto 4, 3) := by decide +kernel
theorem d_Main_table_34 : decode M_Main_table.2.1 34 = .ok (.iconst (-1), 1) := by decide +kernel
theorem d_Main_table_35 : decode M_Main_table.2.1 35 = .ok (.ireturn, 1) := by decide +kernel
theorem d_Main_readStream_0 : decode M_Main_readStream.2.1 0 = .ok (.aload_n 0, 1) := by decide +kernel
theorem d_Main_readStream_1 : decode M_Main_readStream.2.1 1 = .ok (.invokevirtual 208, 3) := by decide +kernel
theorem d_Main_readStream_4 : decode M_Main_readStream.2.1 4 = .ok (.istore_n 1, 1) := by decide +kernel
theorem d_Main_readStream_5 : decode M_Main_readStream.2.1 5 = .ok (.iload_n 1, 1) := by decide +kernel
theorem d_Main_readStream_6 : decode M_Main_readStream.2.1 6 = .ok (.ifCond .ge 5, 3) := by decide +kernel
theorem d_Main_readStream_9 : decode M_Main_readStream.2.1 9 = .ok (.iload_n 1, 1) := by decide +kernel
theorem d_Main_readStream_10 : decode M_Main_readStream.2.1 10 = .ok (.ireturn, 1) := by decide +kernel
theorem d_Main_readStream_11 : decode M_Main_readStream.2.1 11 = .ok (.iconst 0, 1) := by decide +kernel
theorem d_Main_readStream_12 : decode M_Main_readStream.2.1 12 = .ok (.istore_n 2, 1) := by decide +kernel
theorem d_Main_readStream_13 : decode M_Main_readStream.2.1 13 = .ok (.aload_n 0, 1) := by decide +kernel
theorem d_Main_readStream_14 : decode M_Main_readStream.2.1 14 = .ok (.getfield 29, 3) := by decide +kernel
theorem d_Main_readStream_17 : decode M_Main_readStream.2.1 17 = .ok (.bipush 24, 2) := by decide +kernel
theorem d_Main_readStream_19 : decode M_Main_readStream.2.1 19 = .ok (.invokevirtual 211, 3) := by decide +kernel
theorem d_Main_readStream_22 : decode M_Main_readStream.2.1 22 = .ok (.istore_n 3, 1) := by decide +kernel
theorem d_Main_readStream_23 : decode M_Main_readStream.2.1 23 = .ok (.iconst 0, 1) := by decide +kernel
theorem d_Main_readStream_24 : decode M_Main_readStream.2.1 24 = .ok (.istore 4, 2) := by decide +kernel
theorem d_Main_readStream_26 : decode M_Main_readStream.2.1 26 = .ok (.iload 4, 2) := by decide +kernel
theorem d_Main_readStream_28 : decode M_Main_readStream.2.1 28 = .ok (.sipush 3200, 3) := by decide +kernel
theorem d_Main_readStream_31 : decode M_Main_readStream.2.1 31 = .ok (.if_icmp .ge 76, 3) := by decide +kernel
theorem d_Main_readStream_34 : decode M_Main_readStream.2.1 34 = .ok (.iload_n 3, 1) := by decide +kernel
theorem d_Main_readStream_35 : decode M_Main_readStream.2.1 35 = .ok (.ldc 214, 2) := by decide +kernel
theorem d_Main_readStream_37 : decode M_Main_readStream.2.1 37 = .ok (.if_icmp .ne 70, 3) := by decide +kernel
theorem d_Main_readStream_40 : decode M_Main_readStream.2.1 40 = .ok (.aload_n 0, 1) := by decide +kernel
theorem d_Main_readStream_41 : decode M_Main_readStream.2.1 41 = .ok (.getfield 38, 3) := by decide +kernel
theorem d_Main_readStream_44 : decode M_Main_readStream.2.1 44 = .ok (.aload_n 0, 1) := by decide +kernel
theorem d_Main_readStream_45 : decode M_Main_readStream.2.1 45 = .ok (.getfield 63, 3) := by decide +kernel
theorem d_Main_readStream_48 : decode M_Main_readStream.2.1 48 = .ok (.bipush 8, 2) := by decide +kernel
theorem d_Main_readStream_50 : decode M_Main_readStream.2.1 50 = .ok (.iload_n 1, 1) := by decide +kernel
theorem d_Main_readStream_51 : decode M_Main_readStream.2.1 51 = .ok (.imul, 1) := by decide +kernel
theorem d_Main_readStream_52 : decode M_Main_readStream.2.1 52 = .ok (.aload_n 0, 1) := by decide +kernel
theorem d_Main_readStream_53 : decode M_Main_readStream.2.1 53 = .ok (.getfield 21, 3) := by decide +kernel
theorem d_Main_readStream_56 : decode M_Main_readStream.2.1 56 = .ok (.invokevirtual 168, 3) := by decide +kernel
theorem d_Main_readStream_59 : decode M_Main_readStream.2.1 59 = .ok (.istore 5, 2) := by decide +kernel
theorem d_Main_readStream_61 : decode M_Main_readStream.2.1 61 = .ok (.iload 5, 2) := by decide +kernel
theorem d_Main_readStream_63 : decode M_Main_readStream.2.1 63 = .ok (.ifCond .eq 6, 3) := by decide +kernel
theorem d_Main_readStream_66 : decode M_Main_readStream.2.1 66 = .ok (.iload 5, 2) := by decide +kernel
theorem d_Main_readStream_68 : decode M_Main_readStream.2.1 68 = .ok (.ireturn, 1) := by decide +kernel
theorem d_Main_readStream_69 : decode M_Main_readStream.2.1 69 = .ok (.iload_n 2, 1) := by decide +kernel
theorem d_Main_readStream_70 : decode M_Main_readStream.2.1 70 = .ok (.aload_n 0, 1) := by decide +kernel
theorem d_Main_readStream_71 : decode M_Main_readStream.2.1 71 = .ok (.getfield 63, 3) := by decide +kernel
theorem d_Main_readStream_74 : decode M_Main_readStream.2.1 74 = .ok (.getfield 127, 3) := by decide +kernel
theorem d_Main_readStream_77 : decode M_Main_readStream.2.1 77 = .ok (.invokestatic 130, 3) := by decide +kernel
theorem d_Main_readStream_80 : decode M_Main_readStream.2.1 80 = .ok (.istore_n 2, 1) := by decide +kernel
theorem d_Main_readStream_81 : decode M_Main_readStream.2.1 81 = .ok (.aload_n 0, 1) := by decide +kernel
theorem d_Main_readStream_82 : decode M_Main_readStream.2.1 82 = .ok (.dup, 1) := by decide +kernel
theorem d_Main_readStream_83 : decode M_Main_readStream.2.1 83 = .ok (.getfield 70, 3) := by decide +kernel
theorem d_Main_readStream_86 : decode M_Main_readStream.2.1 86 = .ok (.iconst 1, 1) := by decide +kernel
theorem d_Main_readStream_87 : decode M_Main_readStream.2.1 87 = .ok (.iadd, 1) := by decide +kernel
theorem d_Main_readStream_88 : decode M_Main_readStream.2.1 88 = .ok (.putfield 70, 3) := by decide +kernel
theorem d_Main_readStream_91 : decode M_Main_readStream.2.1 91 = .ok (.aload_n 0, 1) := by decide +kernel
theorem d_Main_readStream_92 : decode M_Main_readStream.2.1 92 = .ok (.getfield 29, 3) := by decide +kernel
theorem d_Main_readStream_95 : decode M_Main_readStream.2.1 95 = .ok (.bipush 24, 2) := by decide +kernel
theorem d_Main_readStream_97 : decode M_Main_readStream.2.1 97 = .ok (.invokevirtual 211, 3) := by decide +kernel
theorem d_Main_readStream_100 : decode M_Main_readStream.2.1 100 = .ok (.istore_n 3, 1) := by decide +kernel
theorem d_Main_readStream_101 : decode M_Main_readStream.2.1 101 = .ok (.iinc 4 1, 3) := by decide +kernel
theorem d_Main_readStream_104 : decode M_Main_readStream.2.1 104 = .ok (.goto (-78), 3) := by decide +kernel
theorem d_Main_readStream_107 : decode M_Main_readStream.2.1 107 = .ok (.iload_n 3, 1) := by decide +kernel
theorem d_Main_readStream_108 : decode M_Main_readStream.2.1 108 = .ok (.ldc 215, 2) := by decide +kernel
theorem d_Main_readStream_110 : decode M_Main_readStream.2.1 110 = .ok (.if_icmp .eq 14, 3) := by decide +kernel
theorem d_Main_readStream_113 : decode M_Main_readStream.2.1 113 = .ok (.iload_n 3, 1) := by decide +kernel
theorem d_Main_readStream_114 : decode M_Main_readStream.2.1 114 = .ok (.ifCond .ge 7, 3) := by decide +kernel
theorem d_Main_readStream_117 : decode M_Main_readStream.2.1 117 = .ok (.iload_n 3, 1) := by decide +kernel
theorem d_Main_readStream_118 : decode M_Main_readStream.2.1 118 = .ok (.goto 5, 3) := by decide +kernel
theorem d_Main_readStream_121 : decode M_Main_readStream.2.1 121 = .ok (.bipush (-4), 2) := by decide +kernel
theorem d_Main_readStream_123 : decode M_Main_readStream.2.1 123 = .ok (.ireturn, 1) := by decide +kernel
theorem d_Main_readStream_124 : decode M_Main_readStream.2.1 124 = .ok (.aload_n 0, 1) := by decide +kernel
theorem d_Main_readStream_125 : decode M_Main_readStream.2.1 125 = .ok (.iload_n 2, 1) := by decide +kernel
theorem d_Main_readStream_126 : decode M_Main_readStream.2.1 126 = .ok (.invokevirtual 216, 3) := by decide +kernel
theorem d_Main_readStream_129 : decode M_Main_readStream.2.1 129 = .ok (.ireturn, 1) := by decide +kernel
theorem d_Main_readTotal_0 : decode M_Main_readTotal.2.1 0 = .ok (.aload_n 0, 1) := by decide +kernel
theorem d_Main_readTotal_1 : decode M_Main_readTotal.2.1 1 = .ok (.getfield 29, 3) := by decide +kernel
theorem d_Main_readTotal_4 : decode M_Main_readTotal.2.1 4 = .ok (.bipush 16, 2) := by decide +kernel
theorem d_Main_readTotal_6 : decode M_Main_readTotal.2.1 6 = .ok (.invokevirtual 211, 3) := by decide +kernel
theorem d_Main_readTotal_9 : decode M_Main_readTotal.2.1 9 = .ok (.istore_n 2, 1) := by decide +kernel
theorem d_Main_readTotal_10 : decode M_Main_readTotal.2.1 10 = .ok (.iload_n 2, 1) := by decide +kernel
theorem d_Main_readTotal_11 : decode M_Main_readTotal.2.1 11 = .ok (.iload_n 1, 1) := by decide +kernel
theorem d_Main_readTotal_12 : decode M_Main_readTotal.2.1 12 = .ok (.if_icmp .eq 14, 3) := by decide +kernel
theorem d_Main_readTotal_15 : decode M_Main_readTotal.2.1 15 = .ok (.iload_n 2, 1) := by decide +kernel
theorem d_Main_readTotal_16 : decode M_Main_readTotal.2.1 16 = .ok (.ifCond .ge 7, 3) := by decide +kernel
theorem d_Main_readTotal_19 : decode M_Main_readTotal.2.1 19 = .ok (.iload_n 2, 1) := by decide +kernel
theorem d_Main_readTotal_20 : decode M_Main_readTotal.2.1 20 = .ok (.goto 5, 3) := by decide +kernel
theorem d_Main_readTotal_23 : decode M_Main_readTotal.2.1 23 = .ok (.bipush (-15), 2) := by decide +kernel
theorem d_Main_readTotal_25 : decode M_Main_readTotal.2.1 25 = .ok (.ireturn, 1) := by decide +kernel
theorem d_Main_readTotal_26 : decode M_Main_readTotal.2.1 26 = .ok (.aload_n 0, 1) := by decide +kernel
theorem d_Main_readTotal_27 : decode M_Main_readTotal.2.1 27 = .ok (.getfield 29, 3) := by decide +kernel
theorem d_Main_readTotal_30 : decode M_Main_readTotal.2.1 30 = .ok (.invokevirtual 219, 3) := by decide +kernel
theorem d_Main_readTotal_33 : decode M_Main_readTotal.2.1 33 = .ok (.iconst 0, 1) := by decide +kernel
theorem d_Main_readTotal_34 : decode M_Main_readTotal.2.1 34 = .ok (.ireturn, 1) := by decide +kernel
theorem d_Main_readHead_0 : decode M_Main_readHead.2.1 0 = .ok (.aload_n 0, 1) := by decide +kernel
theorem d_Main_readHead_1 : decode M_Main_readHead.2.1 1 = .ok (.getfield 29, 3) := by decide +kernel
theorem d_Main_readHead_4 : decode M_Main_readHead.2.1 4 = .ok (.bipush 16, 2) := by decide +kernel
theorem d_Main_readHead_6 : decode M_Main_readHead.2.1 6 = .ok (.invokevirtual 211, 3) := by decide +kernel
theorem d_Main_readHead_9 : decode M_Main_readHead.2.1 9 = .ok (.istore_n 1, 1) := by decide +kernel
theorem d_Main_readHead_10 : decode M_Main_readHead.2.1 10 = .ok (.iload_n 1, 1) := by decide +kernel
theorem d_Main_readHead_11 : decode M_Main_readHead.2.1 11 = .ok (.sipush 21314, 3) := by decide +kernel
theorem d_Main_readHead_14 : decode M_Main_readHead.2.1 14 = .ok (.if_icmp .eq 14, 3) := by decide +kernel
theorem d_Main_readHead_17 : decode M_Main_readHead.2.1 17 = .ok (.iload_n 1, 1) := by decide +kernel
theorem d_Main_readHead_18 : decode M_Main_readHead.2.1 18 = .ok (.ifCond .ge 7, 3) := by decide +kernel
theorem d_Main_readHead_21 : decode M_Main_readHead.2.1 21 = .ok (.iload_n 1, 1) := by decide +kernel
theorem d_Main_readHead_22 : decode M_Main_readHead.2.1 22 = .ok (.goto 5, 3) := by decide +kernel
theorem d_Main_readHead_25 : decode M_Main_readHead.2.1 25 = .ok (.bipush (-3), 2) := by decide +kernel
theorem d_Main_readHead_27 : decode M_Main_readHead.2.1 27 = .ok (.ireturn, 1) := by decide +kernel
theorem d_Main_readHead_28 : decode M_Main_readHead.2.1 28 = .ok (.aload_n 0, 1) := by decide +kernel
theorem d_Main_readHead_29 : decode M_Main_readHead.2.1 29 = .ok (.getfield 29, 3) := by decide +kernel
theorem d_Main_readHead_32 : decode M_Main_readHead.2.1 32 = .ok (.bipush 8, 2) := by decide +kernel
theorem d_Main_readHead_34 : decode M_Main_readHead.2.1 34 = .ok (.invokevirtual 211, 3) := by decide +kernel
theorem d_Main_readHead_37 : decode M_Main_readHead.2.1 37 = .ok (.istore_n 2, 1) := by decide +kernel
theorem d_Main_readHead_38 : decode M_Main_readHead.2.1 38 = .ok (.iload_n 2, 1) := by decide +kernel
theorem d_Main_readHead_39 : decode M_Main_readHead.2.1 39 = .ok (.ifCond .eq 9, 3) := by decide +kernel
theorem d_Main_readHead_42 : decode M_Main_readHead.2.1 42 = .ok (.iload_n 2, 1) := by decide +kernel
theorem d_Main_readHead_43 : decode M_Main_readHead.2.1 43 = .ok (.bipush 8, 2) := by decide +kernel
theorem d_Main_readHead_45 : decode M_Main_readHead.2.1 45 = .ok (.if_icmp .le 6, 3) := by decide +kernel
theorem d_Main_readHead_48 : decode M_Main_readHead.2.1 48 = .ok (.bipush (-3), 2) := by decide +kernel
theorem d_Main_readHead_50 : decode M_Main_readHead.2.1 50 = .ok (.ireturn, 1) := by decide +kernel
theorem d_Main_readHead_51 : decode M_Main_readHead.2.1 51 = .ok (.iload_n 2, 1) := by decide +kernel
theorem d_Main_readHead_52 : decode M_Main_readHead.2.1 52 = .ok (.ireturn, 1) := by decide +kernel
theorem d_Main_tellNext_0 : decode M_Main_tellNext.2.1 0 = .ok (.aload_n 0, 1) := by decide +kernel
theorem d_Main_tellNext_1 : decode M_Main_tellNext.2.1 1 = .ok (.getfield 59, 3) := by decide +kernel
theorem d_Main_tellNext_4 : decode M_Main_tellNext.2.1 4 = .ok (.astore_n 1, 1) := by decide +kernel
theorem d_Main_tellNext_5 : decode M_Main_tellNext.2.1 5 = .ok (.aload_n 0, 1) := by decide +kernel
theorem d_Main_tellNext_6 : decode M_Main_tellNext.2.1 6 = .ok (.aload_n 0, 1) := by decide +kernel
theorem d_Main_tellNext_7 : decode M_Main_tellNext.2.1 7 = .ok (.getfield 63, 3) := by decide +kernel
theorem d_Main_tellNext_10 : decode M_Main_tellNext.2.1 10 = .ok (.putfield 59, 3) := by decide +kernel
theorem d_Main_tellNext_13 : decode M_Main_tellNext.2.1 13 = .ok (.aload_n 0, 1) := by decide +kernel
theorem d_Main_tellNext_14 : decode M_Main_tellNext.2.1 14 = .ok (.aload_n 1, 1) := by decide +kernel
theorem d_Main_tellNext_15 : decode M_Main_tellNext.2.1 15 = .ok (.putfield 63, 3) := by decide +kernel
theorem d_Main_tellNext_18 : decode M_Main_tellNext.2.1 18 = .ok (.return_, 1) := by decide +kernel
theorem d_Main_takeFresh_0 : decode M_Main_takeFresh.2.1 0 = .ok (.aload_n 0, 1) := by decide +kernel
theorem d_Main_takeFresh_1 : decode M_Main_takeFresh.2.1 1 = .ok (.getfield 18, 3) := by decide +kernel
theorem d_Main_takeFresh_4 : decode M_Main_takeFresh.2.1 4 = .ok (.iconst 0, 1) := by decide +kernel
theorem d_Main_takeFresh_5 : decode M_Main_takeFresh.2.1 5 = .ok (.invokevirtual 100, 3) := by decide +kernel
theorem d_Main_takeFresh_8 : decode M_Main_takeFresh.2.1 8 = .ok (.aload_n 0, 1) := by decide +kernel
theorem d_Main_takeFresh_9 : decode M_Main_takeFresh.2.1 9 = .ok (.getfield 18, 3) := by decide +kernel
theorem d_Main_takeFresh_12 : decode M_Main_takeFresh.2.1 12 = .ok (.aload_n 0, 1) := by decide +kernel
theorem d_Main_takeFresh_13 : decode M_Main_takeFresh.2.1 13 = .ok (.getfield 21, 3) := by decide +kernel
theorem d_Main_takeFresh_16 : decode M_Main_takeFresh.2.1 16 = .ok (.invokevirtual 111, 3) := by decide +kernel
theorem d_Main_takeFresh_19 : decode M_Main_takeFresh.2.1 19 = .ok (.return_, 1) := by decide +kernel
theorem d_Main_nextTotal_0 : decode M_Main_nextTotal.2.1 0 = .ok (.iload_n 0, 1) := by decide +kernel
theorem d_Main_nextTotal_1 : decode M_Main_nextTotal.2.1 1 = .ok (.iconst 1, 1) := by decide +kernel
theorem d_Main_nextTotal_2 : decode M_Main_nextTotal.2.1 2 = .ok (.ishl, 1) := by decide +kernel
theorem d_Main_nextTotal_3 : decode M_Main_nextTotal.2.1 3 = .ok (.iload_n 0, 1) := by decide +kernel
theorem d_Main_nextTotal_4 : decode M_Main_nextTotal.2.1 4 = .ok (.bipush 15, 2) := by decide +kernel
theorem d_Main_nextTotal_6 : decode M_Main_nextTotal.2.1 6 = .ok (.iushr, 1) := by decide +kernel
theorem d_Main_nextTotal_7 : decode M_Main_nextTotal.2.1 7 = .ok (.ior, 1) := by decide +kernel
theorem d_Main_nextTotal_8 : decode M_Main_nextTotal.2.1 8 = .ok (.ldc 222, 2) := by decide +kernel
theorem d_Main_nextTotal_10 : decode M_Main_nextTotal.2.1 10 = .ok (.iand, 1) := by decide +kernel
theorem d_Main_nextTotal_11 : decode M_Main_nextTotal.2.1 11 = .ok (.iload_n 1, 1) := by decide +kernel
theorem d_Main_nextTotal_12 : decode M_Main_nextTotal.2.1 12 = .ok (.ixor, 1) := by decide +kernel
theorem d_Main_nextTotal_13 : decode M_Main_nextTotal.2.1 13 = .ok (.ireturn, 1) := by decide +kernel
theorem d_Main_mapBit_0 : decode M_Main_mapBit.2.1 0 = .ok (.iconst 1, 1) := by decide +kernel
theorem d_Main_mapBit_1 : decode M_Main_mapBit.2.1 1 = .ok (.bipush 15, 2) := by decide +kernel
theorem d_Main_mapBit_3 : decode M_Main_mapBit.2.1 3 = .ok (.iload_n 0, 1) := by decide +kernel
theorem d_Main_mapBit_4 : decode M_Main_mapBit.2.1 4 = .ok (.isub, 1) := by decide +kernel
theorem d_Main_mapBit_5 : decode M_Main_mapBit.2.1 5 = .ok (.ishl, 1) := by decide +kernel
theorem d_Main_mapBit_6 : decode M_Main_mapBit.2.1 6 = .ok (.ireturn, 1) := by decide +kernel
theorem d_Main_checkOf_0 : decode M_Main_checkOf.2.1 0 = .ok (.ldc 222, 2) := by decide +kernel
theorem d_Main_checkOf_2 : decode M_Main_checkOf.2.1 2 = .ok (.istore_n 3, 1) := by decide +kernel
theorem d_Main_checkOf_3 : decode M_Main_checkOf.2.1 3 = .ok (.iload_n 1, 1) := by decide +kernel
theorem d_Main_checkOf_4 : decode M_Main_checkOf.2.1 4 = .ok (.istore 4, 2) := by decide +kernel
theorem d_Main_checkOf_6 : decode M_Main_checkOf.2.1 6 = .ok (.iload 4, 2) := by decide +kernel
theorem d_Main_checkOf_8 : decode M_Main_checkOf.2.1 8 = .ok (.iload_n 2, 1) := by decide +kernel
theorem d_Main_checkOf_9 : decode M_Main_checkOf.2.1 9 = .ok (.if_icmp .ge 56, 3) := by decide +kernel
theorem d_Main_checkOf_12 : decode M_Main_checkOf.2.1 12 = .ok (.iload_n 3, 1) := by decide +kernel
theorem d_Main_checkOf_13 : decode M_Main_checkOf.2.1 13 = .ok (.aload_n 0, 1) := by decide +kernel
theorem d_Main_checkOf_14 : decode M_Main_checkOf.2.1 14 = .ok (.iload 4, 2) := by decide +kernel
theorem d_Main_checkOf_16 : decode M_Main_checkOf.2.1 16 = .ok (.invokevirtual 174, 3) := by decide +kernel
theorem d_Main_checkOf_19 : decode M_Main_checkOf.2.1 19 = .ok (.bipush 8, 2) := by decide +kernel
theorem d_Main_checkOf_21 : decode M_Main_checkOf.2.1 21 = .ok (.ishl, 1) := by decide +kernel
theorem d_Main_checkOf_22 : decode M_Main_checkOf.2.1 22 = .ok (.ixor, 1) := by decide +kernel
theorem d_Main_checkOf_23 : decode M_Main_checkOf.2.1 23 = .ok (.istore_n 3, 1) := by decide +kernel
theorem d_Main_checkOf_24 : decode M_Main_checkOf.2.1 24 = .ok (.iconst 0, 1) := by decide +kernel
theorem d_Main_checkOf_25 : decode M_Main_checkOf.2.1 25 = .ok (.istore 5, 2) := by decide +kernel
theorem d_Main_checkOf_27 : decode M_Main_checkOf.2.1 27 = .ok (.iload 5, 2) := by decide +kernel
theorem d_Main_checkOf_29 : decode M_Main_checkOf.2.1 29 = .ok (.bipush 8, 2) := by decide +kernel
theorem d_Main_checkOf_31 : decode M_Main_checkOf.2.1 31 = .ok (.if_icmp .ge 28, 3) := by decide +kernel
theorem d_Main_checkOf_34 : decode M_Main_checkOf.2.1 34 = .ok (.iload_n 3, 1) := by decide +kernel
theorem d_Main_checkOf_35 : decode M_Main_checkOf.2.1 35 = .ok (.iconst 1, 1) := by decide +kernel
theorem d_Main_checkOf_36 : decode M_Main_checkOf.2.1 36 = .ok (.ishl, 1) := by decide +kernel
theorem d_Main_checkOf_37 : decode M_Main_checkOf.2.1 37 = .ok (.istore_n 3, 1) := by decide +kernel
theorem d_Main_checkOf_38 : decode M_Main_checkOf.2.1 38 = .ok (.iload_n 3, 1) := by decide +kernel
theorem d_Main_checkOf_39 : decode M_Main_checkOf.2.1 39 = .ok (.ldc 222, 2) := by decide +kernel
theorem d_Main_checkOf_41 : decode M_Main_checkOf.2.1 41 = .ok (.if_icmp .le 12, 3) := by decide +kernel
theorem d_Main_checkOf_44 : decode M_Main_checkOf.2.1 44 = .ok (.iload_n 3, 1) := by decide +kernel
theorem d_Main_checkOf_45 : decode M_Main_checkOf.2.1 45 = .ok (.ldc 222, 2) := by decide +kernel
theorem d_Main_checkOf_47 : decode M_Main_checkOf.2.1 47 = .ok (.iand, 1) := by decide +kernel
theorem d_Main_checkOf_48 : decode M_Main_checkOf.2.1 48 = .ok (.sipush 4129, 3) := by decide +kernel
theorem d_Main_checkOf_51 : decode M_Main_checkOf.2.1 51 = .ok (.ixor, 1) := by decide +kernel
theorem d_Main_checkOf_52 : decode M_Main_checkOf.2.1 52 = .ok (.istore_n 3, 1) := by decide +kernel
theorem d_Main_checkOf_53 : decode M_Main_checkOf.2.1 53 = .ok (.iinc 5 1, 3) := by decide +kernel
theorem d_Main_checkOf_56 : decode M_Main_checkOf.2.1 56 = .ok (.goto (-29), 3) := by decide +kernel
theorem d_Main_checkOf_59 : decode M_Main_checkOf.2.1 59 = .ok (.iinc 4 1, 3) := by decide +kernel
theorem d_Main_checkOf_62 : decode M_Main_checkOf.2.1 62 = .ok (.goto (-56), 3) := by decide +kernel
theorem d_Main_checkOf_65 : decode M_Main_checkOf.2.1 65 = .ok (.iload_n 3, 1) := by decide +kernel
theorem d_Main_checkOf_66 : decode M_Main_checkOf.2.1 66 = .ok (.ireturn, 1) := by decide +kernel
theorem d_Mod_init_0 : decode M_Mod_init.2.1 0 = .ok (.aload_n 0, 1) := by decide +kernel
theorem d_Mod_init_1 : decode M_Mod_init.2.1 1 = .ok (.invokespecial 1, 3) := by decide +kernel
theorem d_Mod_init_4 : decode M_Mod_init.2.1 4 = .ok (.aload_n 0, 1) := by decide +kernel
theorem d_Mod_init_5 : decode M_Mod_init.2.1 5 = .ok (.sipush 400, 3) := by decide +kernel
theorem d_Mod_init_8 : decode M_Mod_init.2.1 8 = .ok (.newarray .int, 2) := by decide +kernel
theorem d_Mod_init_10 : decode M_Mod_init.2.1 10 = .ok (.putfield 7, 3) := by decide +kernel
theorem d_Mod_init_13 : decode M_Mod_init.2.1 13 = .ok (.aload_n 0, 1) := by decide +kernel
theorem d_Mod_init_14 : decode M_Mod_init.2.1 14 = .ok (.sipush 8000, 3) := by decide +kernel
theorem d_Mod_init_17 : decode M_Mod_init.2.1 17 = .ok (.newarray .int, 2) := by decide +kernel
theorem d_Mod_init_19 : decode M_Mod_init.2.1 19 = .ok (.putfield 13, 3) := by decide +kernel
theorem d_Mod_init_22 : decode M_Mod_init.2.1 22 = .ok (.aload_n 0, 1) := by decide +kernel
theorem d_Mod_init_23 : decode M_Mod_init.2.1 23 = .ok (.sipush 8000, 3) := by decide +kernel
theorem d_Mod_init_26 : decode M_Mod_init.2.1 26 = .ok (.newarray .int, 2) := by decide +kernel
theorem d_Mod_init_28 : decode M_Mod_init.2.1 28 = .ok (.putfield 16, 3) := by decide +kernel
theorem d_Mod_init_31 : decode M_Mod_init.2.1 31 = .ok (.aload_n 0, 1) := by decide +kernel
theorem d_Mod_init_32 : decode M_Mod_init.2.1 32 = .ok (.iconst (-1), 1) := by decide +kernel
theorem d_Mod_init_33 : decode M_Mod_init.2.1 33 = .ok (.putfield 19, 3) := by decide +kernel
theorem d_Mod_init_36 : decode M_Mod_init.2.1 36 = .ok (.aload_n 0, 1) := by decide +kernel
theorem d_Mod_init_37 : decode M_Mod_init.2.1 37 = .ok (.sipush 3600, 3) := by decide +kernel
theorem d_Mod_init_40 : decode M_Mod_init.2.1 40 = .ok (.newarray .int, 2) := by decide +kernel
theorem d_Mod_init_42 : decode M_Mod_init.2.1 42 = .ok (.putfield 23, 3) := by decide +kernel
theorem d_Mod_init_45 : decode M_Mod_init.2.1 45 = .ok (.aload_n 0, 1) := by decide +kernel
theorem d_Mod_init_46 : decode M_Mod_init.2.1 46 = .ok (.bipush 80, 2) := by decide +kernel
theorem d_Mod_init_48 : decode M_Mod_init.2.1 48 = .ok (.newarray .int, 2) := by decide +kernel
theorem d_Mod_init_50 : decode M_Mod_init.2.1 50 = .ok (.putfield 26, 3) := by decide +kernel
theorem d_Mod_init_53 : decode M_Mod_init.2.1 53 = .ok (.aload_n 0, 1) := by decide +kernel
theorem d_Mod_init_54 : decode M_Mod_init.2.1 54 = .ok (.bipush 80, 2) := by decide +kernel
theorem d_Mod_init_56 : decode M_Mod_init.2.1 56 = .ok (.newarray .int, 2) := by decide +kernel
theorem d_Mod_init_58 : decode M_Mod_init.2.1 58 = .ok (.putfield 29, 3) := by decide +kernel
theorem d_Mod_init_61 : decode M_Mod_init.2.1 61 = .ok (.aload_n 0, 1) := by decide +kernel
theorem d_Mod_init_62 : decode M_Mod_init.2.1 62 = .ok (.bipush 80, 2) := by decide +kernel
theorem d_Mod_init_64 : decode M_Mod_init.2.1 64 = .ok (.newarray .int, 2) := by decide +kernel
theorem d_Mod_init_66 : decode M_Mod_init.2.1 66 = .ok (.putfield 32, 3) := by decide +kernel
theorem d_Mod_init_69 : decode M_Mod_init.2.1 69 = .ok (.aload_n 0, 1) := by decide +kernel
theorem d_Mod_init_70 : decode M_Mod_init.2.1 70 = .ok (.sipush 256, 3) := by decide +kernel
theorem d_Mod_init_73 : decode M_Mod_init.2.1 73 = .ok (.newarray .boolean, 2) := by decide +kernel
theorem d_Mod_init_75 : decode M_Mod_init.2.1 75 = .ok (.putfield 35, 3) := by decide +kernel
theorem d_Mod_init_78 : decode M_Mod_init.2.1 78 = .ok (.aload_n 0, 1) := by decide +kernel
theorem d_Mod_init_79 : decode M_Mod_init.2.1 79 = .ok (.sipush 256, 3) := by decide +kernel
theorem d_Mod_init_82 : decode M_Mod_init.2.1 82 = .ok (.newarray .int, 2) := by decide +kernel
theorem d_Mod_init_84 : decode M_Mod_init.2.1 84 = .ok (.putfield 39, 3) := by decide +kernel
theorem d_Mod_init_87 : decode M_Mod_init.2.1 87 = .ok (.aload_n 0, 1) := by decide +kernel
theorem d_Mod_init_88 : decode M_Mod_init.2.1 88 = .ok (.sipush 1040, 3) := by decide +kernel
theorem d_Mod_init_91 : decode M_Mod_init.2.1 91 = .ok (.newarray .int, 2) := by decide +kernel
theorem d_Mod_init_93 : decode M_Mod_init.2.1 93 = .ok (.putfield 42, 3) := by decide +kernel
theorem d_Mod_init_96 : decode M_Mod_init.2.1 96 = .ok (.aload_n 0, 1) := by decide +kernel
theorem d_Mod_init_97 : decode M_Mod_init.2.1 97 = .ok (.sipush 1040, 3) := by decide +kernel
theorem d_Mod_init_100 : decode M_Mod_init.2.1 100 = .ok (.newarray .int, 2) := by decide +kernel
theorem d_Mod_init_102 : decode M_Mod_init.2.1 102 = .ok (.putfield 45, 3) := by decide +kernel
theorem d_Mod_init_105 : decode M_Mod_init.2.1 105 = .ok (.aload_n 0, 1) := by decide +kernel
theorem d_Mod_init_106 : decode M_Mod_init.2.1 106 = .ok (.bipush 64, 2) := by decide +kernel
theorem d_Mod_init_108 : decode M_Mod_init.2.1 108 = .ok (.newarray .int, 2) := by decide +kernel
theorem d_Mod_init_110 : decode M_Mod_init.2.1 110 = .ok (.putfield 48, 3) := by decide +kernel
theorem d_Mod_init_113 : decode M_Mod_init.2.1 113 = .ok (.aload_n 0, 1) := by decide +kernel
theorem d_Mod_init_114 : decode M_Mod_init.2.1 114 = .ok (.iconst 4, 1) := by decide +kernel
theorem d_Mod_init_115 : decode M_Mod_init.2.1 115 = .ok (.newarray .int, 2) := by decide +kernel
theorem d_Mod_init_117 : decode M_Mod_init.2.1 117 = .ok (.putfield 51, 3) := by decide +kernel
theorem d_Mod_init_120 : decode M_Mod_init.2.1 120 = .ok (.aload_n 0, 1) := by decide +kernel
theorem d_Mod_init_121 : decode M_Mod_init.2.1 121 = .ok (.bipush 80, 2) := by decide +kernel
theorem d_Mod_init_123 : decode M_Mod_init.2.1 123 = .ok (.newarray .int, 2) := by decide +kernel
theorem d_Mod_init_125 : decode M_Mod_init.2.1 125 = .ok (.putfield 54, 3) := by decide +kernel
theorem d_Mod_init_128 : decode M_Mod_init.2.1 128 = .ok (.aload_n 0, 1) := by decide +kernel
theorem d_Mod_init_129 : decode M_Mod_init.2.1 129 = .ok (.sipush 520, 3) := by decide +kernel
theorem d_Mod_init_132 : decode M_Mod_init.2.1 132 = .ok (.newarray .int, 2) := by decide +kernel
theorem d_Mod_init_134 : decode M_Mod_init.2.1 134 = .ok (.putfield 57, 3) := by decide +kernel
theorem d_Mod_init_137 : decode M_Mod_init.2.1 137 = .ok (.aload_n 0, 1) := by decide +kernel
theorem d_Mod_init_138 : decode M_Mod_init.2.1 138 = .ok (.sipush 520, 3) := by decide +kernel
theorem d_Mod_init_141 : decode M_Mod_init.2.1 141 = .ok (.newarray .int, 2) := by decide +kernel
theorem d_Mod_init_143 : decode M_Mod_init.2.1 143 = .ok (.putfield 60, 3) := by decide +kernel
theorem d_Mod_init_146 : decode M_Mod_init.2.1 146 = .ok (.aload_n 0, 1) := by decide +kernel
theorem d_Mod_init_147 : decode M_Mod_init.2.1 147 = .ok (.bipush 80, 2) := by decide +kernel
theorem d_Mod_init_149 : decode M_Mod_init.2.1 149 = .ok (.newarray .int, 2) := by decide +kernel
theorem d_Mod_init_151 : decode M_Mod_init.2.1 151 = .ok (.putfield 63, 3) := by decide +kernel
theorem d_Mod_init_154 : decode M_Mod_init.2.1 154 = .ok (.aload_n 0, 1) := by decide +kernel
theorem d_Mod_init_155 : decode M_Mod_init.2.1 155 = .ok (.bipush 80, 2) := by decide +kernel
theorem d_Mod_init_157 : decode M_Mod_init.2.1 157 = .ok (.newarray .int, 2) := by decide +kernel
theorem d_Mod_init_159 : decode M_Mod_init.2.1 159 = .ok (.putfield 66, 3) := by decide +kernel
theorem d_Mod_init_162 : decode M_Mod_init.2.1 162 = .ok (.aload_n 0, 1) := by decide +kernel
theorem d_Mod_init_163 : decode M_Mod_init.2.1 163 = .ok (.sipush 1040, 3) := by decide +kernel
theorem d_Mod_init_166 : decode M_Mod_init.2.1 166 = .ok (.newarray .int, 2) := by decide +kernel
theorem d_Mod_init_168 : decode M_Mod_init.2.1 168 = .ok (.putfield 69, 3) := by decide +kernel
theorem d_Mod_init_171 : decode M_Mod_init.2.1 171 = .ok (.aload_n 0, 1) := by decide +kernel
theorem d_Mod_init_172 : decode M_Mod_init.2.1 172 = .ok (.bipush 64, 2) := by decide +kernel
theorem d_Mod_init_174 : decode M_Mod_init.2.1 174 = .ok (.newarray .int, 2) := by decide +kernel
theorem d_Mod_init_176 : decode M_Mod_init.2.1 176 = .ok (.putfield 72, 3) := by decide +kernel
theorem d_Mod_init_179 : decode M_Mod_init.2.1 179 = .ok (.return_, 1) := by decide +kernel
theorem d_Mod_thrown_0 : decode M_Mod_thrown.2.1 0 = .ok (.aload_n 0, 1) := by decide +kernel
theorem d_Mod_thrown_1 : decode M_Mod_thrown.2.1 1 = .ok (.getfield 75, 3) := by decide +kernel
theorem d_Mod_thrown_4 : decode M_Mod_thrown.2.1 4 = .ok (.ireturn, 1) := by decide +kernel
theorem d_Mod_feed_0 : decode M_Mod_feed.2.1 0 = .ok (.aload_n 0, 1) := by decide +kernel
theorem d_Mod_feed_1 : decode M_Mod_feed.2.1 1 = .ok (.iload_n 3, 1) := by decide +kernel
theorem d_Mod_feed_2 : decode M_Mod_feed.2.1 2 = .ok (.iconst 1, 1) := by decide +kernel
theorem d_Mod_feed_3 : decode M_Mod_feed.2.1 3 = .ok (.if_icmp .lt 9, 3) := by decide +kernel
theorem d_Mod_feed_6 : decode M_Mod_feed.2.1 6 = .ok (.iload_n 3, 1) := by decide +kernel
theorem d_Mod_feed_7 : decode M_Mod_feed.2.1 7 = .ok (.bipush 8, 2) := by decide +kernel
theorem d_Mod_feed_9 : decode M_Mod_feed.2.1 9 = .ok (.if_icmp .le 7, 3) := by decide +kernel
theorem d_Mod_feed_12 : decode M_Mod_feed.2.1 12 = .ok (.iconst 1, 1) := by decide +kernel
theorem d_Mod_feed_13 : decode M_Mod_feed.2.1 13 = .ok (.goto 20, 3) := by decide +kernel
theorem d_Mod_feed_16 : decode M_Mod_feed.2.1 16 = .ok (.aload_n 0, 1) := by decide +kernel
theorem d_Mod_feed_17 : decode M_Mod_feed.2.1 17 = .ok (.getfield 78, 3) := by decide +kernel
theorem d_Mod_feed_20 : decode M_Mod_feed.2.1 20 = .ok (.iload_n 3, 1) := by decide +kernel
theorem d_Mod_feed_21 : decode M_Mod_feed.2.1 21 = .ok (.iadd, 1) := by decide +kernel
theorem d_Mod_feed_22 : decode M_Mod_feed.2.1 22 = .ok (.sipush 400, 3) := by decide +kernel
theorem d_Mod_feed_25 : decode M_Mod_feed.2.1 25 = .ok (.if_icmp .le 7, 3) := by decide +kernel
theorem d_Mod_feed_28 : decode M_Mod_feed.2.1 28 = .ok (.iconst 2, 1) := by decide +kernel
theorem d_Mod_feed_29 : decode M_Mod_feed.2.1 29 = .ok (.goto 4, 3) := by decide +kernel
theorem d_Mod_feed_32 : decode M_Mod_feed.2.1 32 = .ok (.iconst 0, 1) := by decide +kernel
theorem d_Mod_feed_33 : decode M_Mod_feed.2.1 33 = .ok (.putfield 75, 3) := by decide +kernel
theorem d_Mod_feed_36 : decode M_Mod_feed.2.1 36 = .ok (.aload_n 0, 1) := by decide +kernel
theorem d_Mod_feed_37 : decode M_Mod_feed.2.1 37 = .ok (.getfield 75, 3) := by decide +kernel
theorem d_Mod_feed_40 : decode M_Mod_feed.2.1 40 = .ok (.ifCond .eq 5, 3) := by decide +kernel
theorem d_Mod_feed_43 : decode M_Mod_feed.2.1 43 = .ok (.iconst 0, 1) := by decide +kernel
theorem d_Mod_feed_44 : decode M_Mod_feed.2.1 44 = .ok (.ireturn, 1) := by decide +kernel
theorem d_Mod_feed_45 : decode M_Mod_feed.2.1 45 = .ok (.iload_n 3, 1) := by decide +kernel
theorem d_Mod_feed_46 : decode M_Mod_feed.2.1 46 = .ok (.iconst 1, 1) := by decide +kernel
theorem d_Mod_feed_47 : decode M_Mod_feed.2.1 47 = .ok (.isub, 1) := by decide +kernel
theorem d_Mod_feed_48 : decode M_Mod_feed.2.1 48 = .ok (.istore 4, 2) := by decide +kernel
theorem d_Mod_feed_50 : decode M_Mod_feed.2.1 50 = .ok (.iload 4, 2) := by decide +kernel
theorem d_Mod_feed_52 : decode M_Mod_feed.2.1 52 = .ok (.ifCond .lt 40, 3) := by decide +kernel
theorem d_Mod_feed_55 : decode M_Mod_feed.2.1 55 = .ok (.aload_n 0, 1) := by decide +kernel
theorem d_Mod_feed_56 : decode M_Mod_feed.2.1 56 = .ok (.getfield 7, 3) := by decide +kernel
theorem d_Mod_feed_59 : decode M_Mod_feed.2.1 59 = .ok (.aload_n 0, 1) := by decide +kernel
theorem d_Mod_feed_60 : decode M_Mod_feed.2.1 60 = .ok (.getfield 78, 3) := by decide +kernel
theorem d_Mod_feed_63 : decode M_Mod_feed.2.1 63 = .ok (.lload_n 1, 1) := by decide +kernel
theorem d_Mod_feed_64 : decode M_Mod_feed.2.1 64 = .ok (.bipush 8, 2) := by decide +kernel
theorem d_Mod_feed_66 : decode M_Mod_feed.2.1 66 = .ok (.iload 4, 2) := by decide +kernel
theorem d_Mod_feed_68 : decode M_Mod_feed.2.1 68 = .ok (.imul, 1) := by decide +kernel
theorem d_Mod_feed_69 : decode M_Mod_feed.2.1 69 = .ok (.lushr, 1) := by decide +kernel
theorem d_Mod_feed_70 : decode M_Mod_feed.2.1 70 = .ok (.ldc2_w 81, 3) := by decide +kernel
theorem d_Mod_feed_73 : decode M_Mod_feed.2.1 73 = .ok (.land, 1) := by decide +kernel
theorem d_Mod_feed_74 : decode M_Mod_feed.2.1 74 = .ok (.l2i, 1) := by decide +kernel
theorem d_Mod_feed_75 : decode M_Mod_feed.2.1 75 = .ok (.iastore, 1) := by decide +kernel
theorem d_Mod_feed_76 : decode M_Mod_feed.2.1 76 = .ok (.aload_n 0, 1) := by decide +kernel
theorem d_Mod_feed_77 : decode M_Mod_feed.2.1 77 = .ok (.dup, 1) := by decide +kernel
theorem d_Mod_feed_78 : decode M_Mod_feed.2.1 78 = .ok (.getfield 78, 3) := by decide +kernel
theorem d_Mod_feed_81 : decode M_Mod_feed.2.1 81 = .ok (.iconst 1, 1) := by decide +kernel
theorem d_Mod_feed_82 : decode M_Mod_feed.2.1 82 = .ok (.iadd, 1) := by decide +kernel
theorem d_Mod_feed_83 : decode M_Mod_feed.2.1 83 = .ok (.putfield 78, 3) := by decide +kernel
theorem d_Mod_feed_86 : decode M_Mod_feed.2.1 86 = .ok (.iinc 4 (-1), 3) := by decide +kernel
theorem d_Mod_feed_89 : decode M_Mod_feed.2.1 89 = .ok (.goto (-39), 3) := by decide +kernel
theorem d_Mod_feed_92 : decode M_Mod_feed.2.1 92 = .ok (.aload_n 0, 1) := by decide +kernel
theorem d_Mod_feed_93 : decode M_Mod_feed.2.1 93 = .ok (.getfield 78, 3) := by decide +kernel
theorem d_Mod_feed_96 : decode M_Mod_feed.2.1 96 = .ok (.ireturn, 1) := by decide +kernel
theorem d_Mod_keep_0 : decode M_Mod_keep.2.1 0 = .ok (.aload_n 0, 1) := by decide +kernel
theorem d_Mod_keep_1 : decode M_Mod_keep.2.1 1 = .ok (.iload_n 1, 1) := by decide +kernel
theorem d_Mod_keep_2 : decode M_Mod_keep.2.1 2 = .ok (.ifCond .lt 11, 3) := by decide +kernel
theorem d_Mod_keep_5 : decode M_Mod_keep.2.1 5 = .ok (.iload_n 1, 1) := by decide +kernel
theorem d_Mod_keep_6 : decode M_Mod_keep.2.1 6 = .ok (.aload_n 0, 1) := by decide +kernel
theorem d_Mod_keep_7 : decode M_Mod_keep.2.1 7 = .ok (.getfield 78, 3) := by decide +kernel
theorem d_Mod_keep_10 : decode M_Mod_keep.2.1 10 = .ok (.if_icmp .le 7, 3) := by decide +kernel
theorem d_Mod_keep_13 : decode M_Mod_keep.2.1 13 = .ok (.iconst 1, 1) := by decide +kernel
theorem d_Mod_keep_14 : decode M_Mod_keep.2.1 14 = .ok (.goto 4, 3) := by decide +kernel
theorem d_Mod_keep_17 : decode M_Mod_keep.2.1 17 = .ok (.iconst 0, 1) := by decide +kernel
theorem d_Mod_keep_18 : decode M_Mod_keep.2.1 18 = .ok (.putfield 75, 3) := by decide +kernel
theorem d_Mod_keep_21 : decode M_Mod_keep.2.1 21 = .ok (.aload_n 0, 1) := by decide +kernel
theorem d_Mod_keep_22 : decode M_Mod_keep.2.1 22 = .ok (.aload_n 0, 1) := by decide +kernel
theorem d_Mod_keep_23 : decode M_Mod_keep.2.1 23 = .ok (.getfield 75, 3) := by decide +kernel
theorem d_Mod_keep_26 : decode M_Mod_keep.2.1 26 = .ok (.ifCond .ne 7, 3) := by decide +kernel
theorem d_Mod_keep_29 : decode M_Mod_keep.2.1 29 = .ok (.iload_n 1, 1) := by decide +kernel
theorem d_Mod_keep_30 : decode M_Mod_keep.2.1 30 = .ok (.goto 7, 3) := by decide +kernel
theorem d_Mod_keep_33 : decode M_Mod_keep.2.1 33 = .ok (.aload_n 0, 1) := by decide +kernel
theorem d_Mod_keep_34 : decode M_Mod_keep.2.1 34 = .ok (.getfield 78, 3) := by decide +kernel
theorem d_Mod_keep_37 : decode M_Mod_keep.2.1 37 = .ok (.putfield 78, 3) := by decide +kernel
theorem d_Mod_keep_40 : decode M_Mod_keep.2.1 40 = .ok (.return_, 1) := by decide +kernel
theorem d_Mod_damage_0 : decode M_Mod_damage.2.1 0 = .ok (.aload_n 0, 1) := by decide +kernel
theorem d_Mod_damage_1 : decode M_Mod_damage.2.1 1 = .ok (.iload_n 1, 1) := by decide +kernel
theorem d_Mod_damage_2 : decode M_Mod_damage.2.1 2 = .ok (.ifCond .lt 14, 3) := by decide +kernel
theorem d_Mod_damage_5 : decode M_Mod_damage.2.1 5 = .ok (.iload_n 1, 1) := by decide +kernel
theorem d_Mod_damage_6 : decode M_Mod_damage.2.1 6 = .ok (.bipush 8, 2) := by decide +kernel
theorem d_Mod_damage_8 : decode M_Mod_damage.2.1 8 = .ok (.aload_n 0, 1) := by decide +kernel
theorem d_Mod_damage_9 : decode M_Mod_damage.2.1 9 = .ok (.getfield 78, 3) := by decide +kernel
theorem d_Mod_damage_12 : decode M_Mod_damage.2.1 12 = .ok (.imul, 1) := by decide +kernel
theorem d_Mod_damage_13 : decode M_Mod_damage.2.1 13 = .ok (.if_icmp .lt 7, 3) := by decide +kernel
theorem d_Mod_damage_16 : decode M_Mod_damage.2.1 16 = .ok (.iconst 1, 1) := by decide +kernel
theorem d_Mod_damage_17 : decode M_Mod_damage.2.1 17 = .ok (.goto 4, 3) := by decide +kernel
theorem d_Mod_damage_20 : decode M_Mod_damage.2.1 20 = .ok (.iconst 0, 1) := by decide +kernel
theorem d_Mod_damage_21 : decode M_Mod_damage.2.1 21 = .ok (.putfield 75, 3) := by decide +kernel
theorem d_Mod_damage_24 : decode M_Mod_damage.2.1 24 = .ok (.aload_n 0, 1) := by decide +kernel
theorem d_Mod_damage_25 : decode M_Mod_damage.2.1 25 = .ok (.getfield 75, 3) := by decide +kernel
theorem d_Mod_damage_28 : decode M_Mod_damage.2.1 28 = .ok (.ifCond .ne 23, 3) := by decide +kernel
theorem d_Mod_damage_31 : decode M_Mod_damage.2.1 31 = .ok (.aload_n 0, 1) := by decide +kernel
theorem d_Mod_damage_32 : decode M_Mod_damage.2.1 32 = .ok (.getfield 7, 3) := by decide +kernel
theorem d_Mod_damage_35 : decode M_Mod_damage.2.1 35 = .ok (.iload_n 1, 1) := by decide +kernel
theorem d_Mod_damage_36 : decode M_Mod_damage.2.1 36 = .ok (.bipush 8, 2) := by decide +kernel
theorem d_Mod_damage_38 : decode M_Mod_damage.2.1 38 = .ok (.idiv, 1) := by decide +kernel
theorem d_Mod_damage_39 : decode M_Mod_damage.2.1 39 = .ok (.dup2, 1) := by decide +kernel
theorem d_Mod_damage_40 : decode M_Mod_damage.2.1 40 = .ok (.iaload, 1) := by decide +kernel
theorem d_Mod_damage_41 : decode M_Mod_damage.2.1 41 = .ok (.sipush 128, 3) := by decide +kernel
theorem d_Mod_damage_44 : decode M_Mod_damage.2.1 44 = .ok (.iload_n 1, 1) := by decide +kernel
theorem d_Mod_damage_45 : decode M_Mod_damage.2.1 45 = .ok (.bipush 8, 2) := by decide +kernel
theorem d_Mod_damage_47 : decode M_Mod_damage.2.1 47 = .ok (.irem, 1) := by decide +kernel
theorem d_Mod_damage_48 : decode M_Mod_damage.2.1 48 = .ok (.ishr, 1) := by decide +kernel
theorem d_Mod_damage_49 : decode M_Mod_damage.2.1 49 = .ok (.ixor, 1) := by decide +kernel
theorem d_Mod_damage_50 : decode M_Mod_damage.2.1 50 = .ok (.iastore, 1) := by decide +kernel
theorem d_Mod_damage_51 : decode M_Mod_damage.2.1 51 = .ok (.return_, 1) := by decide +kernel
theorem d_Mod_append_0 : decode M_Mod_append.2.1 0 = .ok (.aload_n 0, 1) := by decide +kernel
theorem d_Mod_append_1 : decode M_Mod_append.2.1 1 = .ok (.aload_n 0, 1) := by decide +kernel
theorem d_Mod_append_2 : decode M_Mod_append.2.1 2 = .ok (.getfield 78, 3) := by decide +kernel
theorem d_Mod_append_5 : decode M_Mod_append.2.1 5 = .ok (.aload_n 0, 1) := by decide +kernel
theorem d_Mod_append_6 : decode M_Mod_append.2.1 6 = .ok (.getfield 83, 3) := by decide +kernel
theorem d_Mod_append_9 : decode M_Mod_append.2.1 9 = .ok (.iadd, 1) := by decide +kernel
theorem d_Mod_append_10 : decode M_Mod_append.2.1 10 = .ok (.sipush 400, 3) := by decide +kernel
theorem d_Mod_append_13 : decode M_Mod_append.2.1 13 = .ok (.if_icmp .le 7, 3) := by decide +kernel
theorem d_Mod_append_16 : decode M_Mod_append.2.1 16 = .ok (.iconst 1, 1) := by decide +kernel
theorem d_Mod_append_17 : decode M_Mod_append.2.1 17 = .ok (.goto 4, 3) := by decide +kernel
theorem d_Mod_append_20 : decode M_Mod_append.2.1 20 = .ok (.iconst 0, 1) := by decide +kernel
theorem d_Mod_append_21 : decode M_Mod_append.2.1 21 = .ok (.putfield 75, 3) := by decide +kernel
theorem d_Mod_append_24 : decode M_Mod_append.2.1 24 = .ok (.aload_n 0, 1) := by decide +kernel
theorem d_Mod_append_25 : decode M_Mod_append.2.1 25 = .ok (.getfield 75, 3) := by decide +kernel
theorem d_Mod_append_28 : decode M_Mod_append.2.1 28 = .ok (.ifCond .eq 5, 3) := by decide +kernel
theorem d_Mod_append_31 : decode M_Mod_append.2.1 31 = .ok (.iconst 0, 1) := by decide +kernel
theorem d_Mod_append_32 : decode M_Mod_append.2.1 32 = .ok (.ireturn, 1) := by decide +kernel
theorem d_Mod_append_33 : decode M_Mod_append.2.1 33 = .ok (.iconst 0, 1) := by decide +kernel
theorem d_Mod_append_34 : decode M_Mod_append.2.1 34 = .ok (.istore_n 1, 1) := by decide +kernel
theorem d_Mod_append_35 : decode M_Mod_append.2.1 35 = .ok (.iload_n 1, 1) := by decide +kernel
theorem d_Mod_append_36 : decode M_Mod_append.2.1 36 = .ok (.aload_n 0, 1) := by decide +kernel
theorem d_Mod_append_37 : decode M_Mod_append.2.1 37 = .ok (.getfield 83, 3) := by decide +kernel
theorem d_Mod_append_40 : decode M_Mod_append.2.1 40 = .ok (.if_icmp .ge 26, 3) := by decide +kernel
theorem d_Mod_append_43 : decode M_Mod_append.2.1 43 = .ok (.aload_n 0, 1) := by decide +kernel
theorem d_Mod_append_44 : decode M_Mod_append.2.1 44 = .ok (.getfield 7, 3) := by decide +kernel
theorem d_Mod_append_47 : decode M_Mod_append.2.1 47 = .ok (.aload_n 0, 1) := by decide +kernel
theorem d_Mod_append_48 : decode M_Mod_append.2.1 48 = .ok (.getfield 78, 3) := by decide +kernel
theorem d_Mod_append_51 : decode M_Mod_append.2.1 51 = .ok (.iload_n 1, 1) := by decide +kernel
theorem d_Mod_append_52 : decode M_Mod_append.2.1 52 = .ok (.iadd, 1) := by decide +kernel
theorem d_Mod_append_53 : decode M_Mod_append.2.1 53 = .ok (.aload_n 0, 1) := by decide +kernel
theorem d_Mod_append_54 : decode M_Mod_append.2.1 54 = .ok (.getfield 13, 3) := by decide +kernel
theorem d_Mod_append_57 : decode M_Mod_append.2.1 57 = .ok (.iload_n 1, 1) := by decide +kernel
theorem d_Mod_append_58 : decode M_Mod_append.2.1 58 = .ok (.iaload, 1) := by decide +kernel
theorem d_Mod_append_59 : decode M_Mod_append.2.1 59 = .ok (.iastore, 1) := by decide +kernel
theorem d_Mod_append_60 : decode M_Mod_append.2.1 60 = .ok (.iinc 1 1, 3) := by decide +kernel
theorem d_Mod_append_63 : decode M_Mod_append.2.1 63 = .ok (.goto (-28), 3) := by decide +kernel
theorem d_Mod_append_66 : decode M_Mod_append.2.1 66 = .ok (.aload_n 0, 1) := by decide +kernel
theorem d_Mod_append_67 : decode M_Mod_append.2.1 67 = .ok (.dup, 1) := by decide +kernel
theorem d_Mod_append_68 : decode M_Mod_append.2.1 68 = .ok (.getfield 78, 3) := by decide +kernel
theorem d_Mod_append_71 : decode M_Mod_append.2.1 71 = .ok (.aload_n 0, 1) := by decide +kernel
theorem d_Mod_append_72 : decode M_Mod_append.2.1 72 = .ok (.getfield 83, 3) := by decide +kernel
theorem d_Mod_append_75 : decode M_Mod_append.2.1 75 = .ok (.iadd, 1) := by decide +kernel
theorem d_Mod_append_76 : decode M_Mod_append.2.1 76 = .ok (.putfield 78, 3) := by decide +kernel
theorem d_Mod_append_79 : decode M_Mod_append.2.1 79 = .ok (.aload_n 0, 1) := by decide +kernel
theorem d_Mod_append_80 : decode M_Mod_append.2.1 80 = .ok (.getfield 78, 3) := by decide +kernel
theorem d_Mod_append_83 : decode M_Mod_append.2.1 83 = .ok (.ireturn, 1) := by decide +kernel
theorem d_Mod_takeOver_0 : decode M_Mod_takeOver.2.1 0 = .ok (.iconst 0, 1) := by decide +kernel
theorem d_Mod_takeOver_1 : decode M_Mod_takeOver.2.1 1 = .ok (.istore_n 1, 1) := by decide +kernel
theorem d_Mod_takeOver_2 : decode M_Mod_takeOver.2.1 2 = .ok (.iload_n 1, 1) := by decide +kernel
theorem d_Mod_takeOver_3 : decode M_Mod_takeOver.2.1 3 = .ok (.aload_n 0, 1) := by decide +kernel
theorem d_Mod_takeOver_4 : decode M_Mod_takeOver.2.1 4 = .ok (.getfield 86, 3) := by decide +kernel
theorem d_Mod_takeOver_7 : decode M_Mod_takeOver.2.1 7 = .ok (.if_icmp .ge 21, 3) := by decide +kernel
theorem d_Mod_takeOver_10 : decode M_Mod_takeOver.2.1 10 = .ok (.aload_n 0, 1) := by decide +kernel
theorem d_Mod_takeOver_11 : decode M_Mod_takeOver.2.1 11 = .ok (.getfield 13, 3) := by decide +kernel
theorem d_Mod_takeOver_14 : decode M_Mod_takeOver.2.1 14 = .ok (.iload_n 1, 1) := by decide +kernel
theorem d_Mod_takeOver_15 : decode M_Mod_takeOver.2.1 15 = .ok (.aload_n 0, 1) := by decide +kernel
theorem d_Mod_takeOver_16 : decode M_Mod_takeOver.2.1 16 = .ok (.getfield 16, 3) := by decide +kernel
theorem d_Mod_takeOver_19 : decode M_Mod_takeOver.2.1 19 = .ok (.iload_n 1, 1) := by decide +kernel
theorem d_Mod_takeOver_20 : decode M_Mod_takeOver.2.1 20 = .ok (.iaload, 1) := by decide +kernel
theorem d_Mod_takeOver_21 : decode M_Mod_takeOver.2.1 21 = .ok (.iastore, 1) := by decide +kernel
theorem d_Mod_takeOver_22 : decode M_Mod_takeOver.2.1 22 = .ok (.iinc 1 1, 3) := by decide +kernel
theorem d_Mod_takeOver_25 : decode M_Mod_takeOver.2.1 25 = .ok (.goto (-23), 3) := by decide +kernel
theorem d_Mod_takeOver_28 : decode M_Mod_takeOver.2.1 28 = .ok (.aload_n 0, 1) := by decide +kernel
theorem d_Mod_takeOver_29 : decode M_Mod_takeOver.2.1 29 = .ok (.aload_n 0, 1) := by decide +kernel
theorem d_Mod_takeOver_30 : decode M_Mod_takeOver.2.1 30 = .ok (.getfield 86, 3) := by decide +kernel
theorem d_Mod_takeOver_33 : decode M_Mod_takeOver.2.1 33 = .ok (.putfield 83, 3) := by decide +kernel
theorem d_Mod_takeOver_36 : decode M_Mod_takeOver.2.1 36 = .ok (.return_, 1) := by decide +kernel
theorem d_Mod_step_0 : decode M_Mod_step.2.1 0 = .ok (.iload_n 0, 1) := by decide +kernel
theorem d_Mod_step_1 : decode M_Mod_step.2.1 1 = .ok (.iload_n 1, 1) := by decide +kernel
theorem d_Mod_step_2 : decode M_Mod_step.2.1 2 = .ok (.bipush 8, 2) := by decide +kernel
theorem d_Mod_step_4 : decode M_Mod_step.2.1 4 = .ok (.ishl, 1) := by decide +kernel
theorem d_Mod_step_5 : decode M_Mod_step.2.1 5 = .ok (.ixor, 1) := by decide +kernel
theorem d_Mod_step_6 : decode M_Mod_step.2.1 6 = .ok (.istore_n 2, 1) := by decide +kernel
theorem d_Mod_step_7 : decode M_Mod_step.2.1 7 = .ok (.iconst 0, 1) := by decide +kernel
theorem d_Mod_step_8 : decode M_Mod_step.2.1 8 = .ok (.istore_n 3, 1) := by decide +kernel
theorem d_Mod_step_9 : decode M_Mod_step.2.1 9 = .ok (.iload_n 3, 1) := by decide +kernel
theorem d_Mod_step_10 : decode M_Mod_step.2.1 10 = .ok (.bipush 8, 2) := by decide +kernel
theorem d_Mod_step_12 : decode M_Mod_step.2.1 12 = .ok (.if_icmp .ge 36, 3) := by decide +kernel
theorem d_Mod_step_15 : decode M_Mod_step.2.1 15 = .ok (.iload_n 2, 1) := by decide +kernel
theorem d_Mod_step_16 : decode M_Mod_step.2.1 16 = .ok (.ldc 89, 2) := by decide +kernel
theorem d_Mod_step_18 : decode M_Mod_step.2.1 18 = .ok (.iand, 1) := by decide +kernel
theorem d_Mod_step_19 : decode M_Mod_step.2.1 19 = .ok (.ifCond .eq 16, 3) := by decide +kernel
theorem d_Mod_step_22 : decode M_Mod_step.2.1 22 = .ok (.iload_n 2, 1) := by decide +kernel
theorem d_Mod_step_23 : decode M_Mod_step.2.1 23 = .ok (.iconst 1, 1) := by decide +kernel
theorem d_Mod_step_24 : decode M_Mod_step.2.1 24 = .ok (.ishl, 1) := by decide +kernel
theorem d_Mod_step_25 : decode M_Mod_step.2.1 25 = .ok (.sipush 4129, 3) := by decide +kernel
theorem d_Mod_step_28 : decode M_Mod_step.2.1 28 = .ok (.ixor, 1) := by decide +kernel
theorem d_Mod_step_29 : decode M_Mod_step.2.1 29 = .ok (.ldc 90, 2) := by decide +kernel
theorem d_Mod_step_31 : decode M_Mod_step.2.1 31 = .ok (.iand, 1) := by decide +kernel
theorem d_Mod_step_32 : decode M_Mod_step.2.1 32 = .ok (.goto 9, 3) := by decide +kernel
theorem d_Mod_step_35 : decode M_Mod_step.2.1 35 = .ok (.iload_n 2, 1) := by decide +kernel
theorem d_Mod_step_36 : decode M_Mod_step.2.1 36 = .ok (.iconst 1, 1) := by decide +kernel
theorem d_Mod_step_37 : decode M_Mod_step.2.1 37 = .ok (.ishl, 1) := by decide +kernel
theorem d_Mod_step_38 : decode M_Mod_step.2.1 38 = .ok (.ldc 90, 2) := by decide +kernel
theorem d_Mod_step_40 : decode M_Mod_step.2.1 40 = .ok (.iand, 1) := by decide +kernel
theorem d_Mod_step_41 : decode M_Mod_step.2.1 41 = .ok (.istore_n 2, 1) := by decide +kernel
theorem d_Mod_step_42 : decode M_Mod_step.2.1 42 = .ok (.iinc 3 1, 3) := by decide +kernel
theorem d_Mod_step_45 : decode M_Mod_step.2.1 45 = .ok (.goto (-36), 3) := by decide +kernel
theorem d_Mod_step_48 : decode M_Mod_step.2.1 48 = .ok (.iload_n 2, 1) := by decide +kernel
theorem d_Mod_step_49 : decode M_Mod_step.2.1 49 = .ok (.ireturn, 1) := by decide +kernel
theorem d_Mod_checkOf_0 : decode M_Mod_checkOf.2.1 0 = .ok (.ldc 90, 2) := by decide +kernel
theorem d_Mod_checkOf_2 : decode M_Mod_checkOf.2.1 2 = .ok (.istore_n 1, 1) := by decide +kernel
theorem d_Mod_checkOf_3 : decode M_Mod_checkOf.2.1 3 = .ok (.iconst 0, 1) := by decide +kernel
theorem d_Mod_checkOf_4 : decode M_Mod_checkOf.2.1 4 = .ok (.istore_n 2, 1) := by decide +kernel
theorem d_Mod_checkOf_5 : decode M_Mod_checkOf.2.1 5 = .ok (.iload_n 2, 1) := by decide +kernel
theorem d_Mod_checkOf_6 : decode M_Mod_checkOf.2.1 6 = .ok (.aload_n 0, 1) := by decide +kernel
theorem d_Mod_checkOf_7 : decode M_Mod_checkOf.2.1 7 = .ok (.getfield 91, 3) := by decide +kernel
theorem d_Mod_checkOf_10 : decode M_Mod_checkOf.2.1 10 = .ok (.if_icmp .ge 20, 3) := by decide +kernel
theorem d_Mod_checkOf_13 : decode M_Mod_checkOf.2.1 13 = .ok (.iload_n 1, 1) := by decide +kernel
theorem d_Mod_checkOf_14 : decode M_Mod_checkOf.2.1 14 = .ok (.aload_n 0, 1) := by decide +kernel
theorem d_Mod_checkOf_15 : decode M_Mod_checkOf.2.1 15 = .ok (.getfield 23, 3) := by decide +kernel
theorem d_Mod_checkOf_18 : decode M_Mod_checkOf.2.1 18 = .ok (.iload_n 2, 1) := by decide +kernel
theorem d_Mod_checkOf_19 : decode M_Mod_checkOf.2.1 19 = .ok (.iaload, 1) := by decide +kernel
theorem d_Mod_checkOf_20 : decode M_Mod_checkOf.2.1 20 = .ok (.invokestatic 94, 3) := by decide +kernel
theorem d_Mod_checkOf_23 : decode M_Mod_checkOf.2.1 23 = .ok (.istore_n 1, 1) := by decide +kernel
theorem d_Mod_checkOf_24 : decode M_Mod_checkOf.2.1 24 = .ok (.iinc 2 1, 3) := by decide +kernel
theorem d_Mod_checkOf_27 : decode M_Mod_checkOf.2.1 27 = .ok (.goto (-22), 3) := by decide +kernel
theorem d_Mod_checkOf_30 : decode M_Mod_checkOf.2.1 30 = .ok (.iload_n 1, 1) := by decide +kernel
theorem d_Mod_checkOf_31 : decode M_Mod_checkOf.2.1 31 = .ok (.ireturn, 1) := by decide +kernel
theorem d_Mod_addTotal_0 : decode M_Mod_addTotal.2.1 0 = .ok (.iload_n 0, 1) := by decide +kernel
theorem d_Mod_addTotal_1 : decode M_Mod_addTotal.2.1 1 = .ok (.iconst 1, 1) := by decide +kernel
theorem d_Mod_addTotal_2 : decode M_Mod_addTotal.2.1 2 = .ok (.ishl, 1) := by decide +kernel
theorem d_Mod_addTotal_3 : decode M_Mod_addTotal.2.1 3 = .ok (.ldc 90, 2) := by decide +kernel
theorem d_Mod_addTotal_5 : decode M_Mod_addTotal.2.1 5 = .ok (.iand, 1) := by decide +kernel
theorem d_Mod_addTotal_6 : decode M_Mod_addTotal.2.1 6 = .ok (.iload_n 0, 1) := by decide +kernel
theorem d_Mod_addTotal_7 : decode M_Mod_addTotal.2.1 7 = .ok (.bipush 15, 2) := by decide +kernel
theorem d_Mod_addTotal_9 : decode M_Mod_addTotal.2.1 9 = .ok (.ishr, 1) := by decide +kernel
theorem d_Mod_addTotal_10 : decode M_Mod_addTotal.2.1 10 = .ok (.ior, 1) := by decide +kernel
theorem d_Mod_addTotal_11 : decode M_Mod_addTotal.2.1 11 = .ok (.iload_n 1, 1) := by decide +kernel
theorem d_Mod_addTotal_12 : decode M_Mod_addTotal.2.1 12 = .ok (.ixor, 1) := by decide +kernel
theorem d_Mod_addTotal_13 : decode M_Mod_addTotal.2.1 13 = .ok (.ireturn, 1) := by decide +kernel
theorem d_Mod_shorten_0 : decode M_Mod_shorten.2.1 0 = .ok (.iconst 0, 1) := by decide +kernel
theorem d_Mod_shorten_1 : decode M_Mod_shorten.2.1 1 = .ok (.istore_n 3, 1) := by decide +kernel
theorem d_Mod_shorten_2 : decode M_Mod_shorten.2.1 2 = .ok (.iload_n 1, 1) := by decide +kernel
theorem d_Mod_shorten_3 : decode M_Mod_shorten.2.1 3 = .ok (.istore 4, 2) := by decide +kernel
theorem d_Mod_shorten_5 : decode M_Mod_shorten.2.1 5 = .ok (.iload 4, 2) := by decide +kernel
theorem d_Mod_shorten_7 : decode M_Mod_shorten.2.1 7 = .ok (.iload_n 1, 1) := by decide +kernel
theorem d_Mod_shorten_8 : decode M_Mod_shorten.2.1 8 = .ok (.iload_n 2, 1) := by decide +kernel
theorem d_Mod_shorten_9 : decode M_Mod_shorten.2.1 9 = .ok (.iadd, 1) := by decide +kernel
theorem d_Mod_shorten_10 : decode M_Mod_shorten.2.1 10 = .ok (.if_icmp .ge 132, 3) := by decide +kernel
theorem d_Mod_shorten_13 : decode M_Mod_shorten.2.1 13 = .ok (.iload_n 3, 1) := by decide +kernel
theorem d_Mod_shorten_14 : decode M_Mod_shorten.2.1 14 = .ok (.bipush 72, 2) := by decide +kernel
theorem d_Mod_shorten_16 : decode M_Mod_shorten.2.1 16 = .ok (.if_icmp .ge 126, 3) := by decide +kernel
theorem d_Mod_shorten_19 : decode M_Mod_shorten.2.1 19 = .ok (.iconst 1, 1) := by decide +kernel
theorem d_Mod_shorten_20 : decode M_Mod_shorten.2.1 20 = .ok (.istore 5, 2) := by decide +kernel
theorem d_Mod_shorten_22 : decode M_Mod_shorten.2.1 22 = .ok (.iload 4, 2) := by decide +kernel
theorem d_Mod_shorten_24 : decode M_Mod_shorten.2.1 24 = .ok (.iload 5, 2) := by decide +kernel
theorem d_Mod_shorten_26 : decode M_Mod_shorten.2.1 26 = .ok (.iadd, 1) := by decide +kernel
theorem d_Mod_shorten_27 : decode M_Mod_shorten.2.1 27 = .ok (.iload_n 1, 1) := by decide +kernel
theorem d_Mod_shorten_28 : decode M_Mod_shorten.2.1 28 = .ok (.iload_n 2, 1) := by decide +kernel
theorem d_Mod_shorten_29 : decode M_Mod_shorten.2.1 29 = .ok (.iadd, 1) := by decide +kernel
theorem d_Mod_shorten_30 : decode M_Mod_shorten.2.1 30 = .ok (.if_icmp .ge 37, 3) := by decide +kernel
theorem d_Mod_shorten_33 : decode M_Mod_shorten.2.1 33 = .ok (.iload 5, 2) := by decide +kernel
theorem d_Mod_shorten_35 : decode M_Mod_shorten.2.1 35 = .ok (.sipush 255, 3) := by decide +kernel
theorem d_Mod_shorten_38 : decode M_Mod_shorten.2.1 38 = .ok (.if_icmp .ge 29, 3) := by decide +kernel
theorem d_Mod_shorten_41 : decode M_Mod_shorten.2.1 41 = .ok (.aload_n 0, 1) := by decide +kernel
theorem d_Mod_shorten_42 : decode M_Mod_shorten.2.1 42 = .ok (.getfield 7, 3) := by decide +kernel
theorem d_Mod_shorten_45 : decode M_Mod_shorten.2.1 45 = .ok (.iload 4, 2) := by decide +kernel
theorem d_Mod_shorten_47 : decode M_Mod_shorten.2.1 47 = .ok (.iload 5, 2) := by decide +kernel
theorem d_Mod_shorten_49 : decode M_Mod_shorten.2.1 49 = .ok (.iadd, 1) := by decide +kernel
theorem d_Mod_shorten_50 : decode M_Mod_shorten.2.1 50 = .ok (.iaload, 1) := by decide +kernel
theorem d_Mod_shorten_51 : decode M_Mod_shorten.2.1 51 = .ok (.aload_n 0, 1) := by decide +kernel
theorem d_Mod_shorten_52 : decode M_Mod_shorten.2.1 52 = .ok (.getfield 7, 3) := by decide +kernel
theorem d_Mod_shorten_55 : decode M_Mod_shorten.2.1 55 = .ok (.iload 4, 2) := by decide +kernel
theorem d_Mod_shorten_57 : decode M_Mod_shorten.2.1 57 = .ok (.iaload, 1) := by decide +kernel
theorem d_Mod_shorten_58 : decode M_Mod_shorten.2.1 58 = .ok (.if_icmp .ne 9, 3) := by decide +kernel
theorem d_Mod_shorten_61 : decode M_Mod_shorten.2.1 61 = .ok (.iinc 5 1, 3) := by decide +kernel
theorem d_Mod_shorten_64 : decode M_Mod_shorten.2.1 64 = .ok (.goto (-42), 3) := by decide +kernel
theorem d_Mod_shorten_67 : decode M_Mod_shorten.2.1 67 = .ok (.iload 5, 2) := by decide +kernel
theorem d_Mod_shorten_69 : decode M_Mod_shorten.2.1 69 = .ok (.iconst 4, 1) := by decide +kernel
theorem d_Mod_shorten_70 : decode M_Mod_shorten.2.1 70 = .ok (.if_icmp .ge 8, 3) := by decide +kernel
theorem d_Mod_shorten_73 : decode M_Mod_shorten.2.1 73 = .ok (.iload 5, 2) := by decide +kernel
theorem d_Mod_shorten_75 : decode M_Mod_shorten.2.1 75 = .ok (.goto 4, 3) := by decide +kernel
theorem d_Mod_shorten_78 : decode M_Mod_shorten.2.1 78 = .ok (.iconst 4, 1) := by decide +kernel
theorem d_Mod_shorten_79 : decode M_Mod_shorten.2.1 79 = .ok (.istore 6, 2) := by decide +kernel
theorem d_Mod_shorten_81 : decode M_Mod_shorten.2.1 81 = .ok (.iconst 0, 1) := by decide +kernel
theorem d_Mod_shorten_82 : decode M_Mod_shorten.2.1 82 = .ok (.istore 7, 2) := by decide +kernel
theorem d_Mod_shorten_84 : decode M_Mod_shorten.2.1 84 = .ok (.iload 7, 2) := by decide +kernel
theorem d_Mod_shorten_86 : decode M_Mod_shorten.2.1 86 = .ok (.iload 6, 2) := by decide +kernel
theorem d_Mod_shorten_88 : decode M_Mod_shorten.2.1 88 = .ok (.if_icmp .ge 25, 3) := by decide +kernel
theorem d_Mod_shorten_91 : decode M_Mod_shorten.2.1 91 = .ok (.aload_n 0, 1) := by decide +kernel
theorem d_Mod_shorten_92 : decode M_Mod_shorten.2.1 92 = .ok (.getfield 26, 3) := by decide +kernel
theorem d_Mod_shorten_95 : decode M_Mod_shorten.2.1 95 = .ok (.iload_n 3, 1) := by decide +kernel
theorem d_Mod_shorten_96 : decode M_Mod_shorten.2.1 96 = .ok (.aload_n 0, 1) := by decide +kernel
theorem d_Mod_shorten_97 : decode M_Mod_shorten.2.1 97 = .ok (.getfield 7, 3) := by decide +kernel
theorem d_Mod_shorten_100 : decode M_Mod_shorten.2.1 100 = .ok (.iload 4, 2) := by decide +kernel
theorem d_Mod_shorten_102 : decode M_Mod_shorten.2.1 102 = .ok (.iaload, 1) := by decide +kernel
theorem d_Mod_shorten_103 : decode M_Mod_shorten.2.1 103 = .ok (.iastore, 1) := by decide +kernel
theorem d_Mod_shorten_104 : decode M_Mod_shorten.2.1 104 = .ok (.iinc 3 1, 3) := by decide +kernel
theorem d_Mod_shorten_107 : decode M_Mod_shorten.2.1 107 = .ok (.iinc 7 1, 3) := by decide +kernel
theorem d_Mod_shorten_110 : decode M_Mod_shorten.2.1 110 = .ok (.goto (-26), 3) := by decide +kernel
theorem d_Mod_shorten_113 : decode M_Mod_shorten.2.1 113 = .ok (.iload 5, 2) := by decide +kernel
theorem d_Mod_shorten_115 : decode M_Mod_shorten.2.1 115 = .ok (.iconst 3, 1) := by decide +kernel
theorem d_Mod_shorten_116 : decode M_Mod_shorten.2.1 116 = .ok (.if_icmp .le 16, 3) := by decide +kernel
theorem d_Mod_shorten_119 : decode M_Mod_shorten.2.1 119 = .ok (.aload_n 0, 1) := by decide +kernel
theorem d_Mod_shorten_120 : decode M_Mod_shorten.2.1 120 = .ok (.getfield 26, 3) := by decide +kernel
theorem d_Mod_shorten_123 : decode M_Mod_shorten.2.1 123 = .ok (.iload_n 3, 1) := by decide +kernel
theorem d_Mod_shorten_124 : decode M_Mod_shorten.2.1 124 = .ok (.iload 5, 2) := by decide +kernel
theorem d_Mod_shorten_126 : decode M_Mod_shorten.2.1 126 = .ok (.iconst 4, 1) := by decide +kernel
theorem d_Mod_shorten_127 : decode M_Mod_shorten.2.1 127 = .ok (.isub, 1) := by decide +kernel
theorem d_Mod_shorten_128 : decode M_Mod_shorten.2.1 128 = .ok (.iastore, 1) := by decide +kernel
theorem d_Mod_shorten_129 : decode M_Mod_shorten.2.1 129 = .ok (.iinc 3 1, 3) := by decide +kernel
theorem d_Mod_shorten_132 : decode M_Mod_shorten.2.1 132 = .ok (.iload 4, 2) := by decide +kernel
theorem d_Mod_shorten_134 : decode M_Mod_shorten.2.1 134 = .ok (.iload 5, 2) := by decide +kernel
theorem d_Mod_shorten_136 : decode M_Mod_shorten.2.1 136 = .ok (.iadd, 1) := by decide +kernel
theorem d_Mod_shorten_137 : decode M_Mod_shorten.2.1 137 = .ok (.istore 4, 2) := by decide +kernel
theorem d_Mod_shorten_139 : decode M_Mod_shorten.2.1 139 = .ok (.goto (-134), 3) := by decide +kernel
theorem d_Mod_shorten_142 : decode M_Mod_shorten.2.1 142 = .ok (.iload_n 3, 1) := by decide +kernel
theorem d_Mod_shorten_143 : decode M_Mod_shorten.2.1 143 = .ok (.ireturn, 1) := by decide +kernel
theorem d_Mod_lengthen_0 : decode M_Mod_lengthen.2.1 0 = .ok (.aload_n 0, 1) := by decide +kernel
theorem d_Mod_lengthen_1 : decode M_Mod_lengthen.2.1 1 = .ok (.iconst 0, 1) := by decide +kernel
theorem d_Mod_lengthen_2 : decode M_Mod_lengthen.2.1 2 = .ok (.putfield 91, 3) := by decide +kernel
theorem d_Mod_lengthen_5 : decode M_Mod_lengthen.2.1 5 = .ok (.iconst 0, 1) := by decide +kernel
theorem d_Mod_lengthen_6 : decode M_Mod_lengthen.2.1 6 = .ok (.istore_n 1, 1) := by decide +kernel
theorem d_Mod_lengthen_7 : decode M_Mod_lengthen.2.1 7 = .ok (.iconst 0, 1) := by decide +kernel
theorem d_Mod_lengthen_8 : decode M_Mod_lengthen.2.1 8 = .ok (.istore_n 2, 1) := by decide +kernel
theorem d_Mod_lengthen_9 : decode M_Mod_lengthen.2.1 9 = .ok (.iload_n 2, 1) := by decide +kernel
theorem d_Mod_lengthen_10 : decode M_Mod_lengthen.2.1 10 = .ok (.aload_n 0, 1) := by decide +kernel
theorem d_Mod_lengthen_11 : decode M_Mod_lengthen.2.1 11 = .ok (.getfield 98, 3) := by decide +kernel
theorem d_Mod_lengthen_14 : decode M_Mod_lengthen.2.1 14 = .ok (.if_icmp .ge 118, 3) := by decide +kernel
theorem d_Mod_lengthen_17 : decode M_Mod_lengthen.2.1 17 = .ok (.iload_n 1, 1) := by decide +kernel
theorem d_Mod_lengthen_18 : decode M_Mod_lengthen.2.1 18 = .ok (.iconst 4, 1) := by decide +kernel
theorem d_Mod_lengthen_19 : decode M_Mod_lengthen.2.1 19 = .ok (.if_icmp .ne 53, 3) := by decide +kernel
theorem d_Mod_lengthen_22 : decode M_Mod_lengthen.2.1 22 = .ok (.iconst 0, 1) := by decide +kernel
theorem d_Mod_lengthen_23 : decode M_Mod_lengthen.2.1 23 = .ok (.istore_n 3, 1) := by decide +kernel
theorem d_Mod_lengthen_24 : decode M_Mod_lengthen.2.1 24 = .ok (.iload_n 3, 1) := by decide +kernel
theorem d_Mod_lengthen_25 : decode M_Mod_lengthen.2.1 25 = .ok (.aload_n 0, 1) := by decide +kernel
theorem d_Mod_lengthen_26 : decode M_Mod_lengthen.2.1 26 = .ok (.getfield 26, 3) := by decide +kernel
theorem d_Mod_lengthen_29 : decode M_Mod_lengthen.2.1 29 = .ok (.iload_n 2, 1) := by decide +kernel
theorem d_Mod_lengthen_30 : decode M_Mod_lengthen.2.1 30 = .ok (.iaload, 1) := by decide +kernel
theorem d_Mod_lengthen_31 : decode M_Mod_lengthen.2.1 31 = .ok (.if_icmp .ge 36, 3) := by decide +kernel
theorem d_Mod_lengthen_34 : decode M_Mod_lengthen.2.1 34 = .ok (.aload_n 0, 1) := by decide +kernel
theorem d_Mod_lengthen_35 : decode M_Mod_lengthen.2.1 35 = .ok (.getfield 23, 3) := by decide +kernel
theorem d_Mod_lengthen_38 : decode M_Mod_lengthen.2.1 38 = .ok (.aload_n 0, 1) := by decide +kernel
theorem d_Mod_lengthen_39 : decode M_Mod_lengthen.2.1 39 = .ok (.getfield 91, 3) := by decide +kernel
theorem d_Mod_lengthen_42 : decode M_Mod_lengthen.2.1 42 = .ok (.aload_n 0, 1) := by decide +kernel
theorem d_Mod_lengthen_43 : decode M_Mod_lengthen.2.1 43 = .ok (.getfield 26, 3) := by decide +kernel
theorem d_Mod_lengthen_46 : decode M_Mod_lengthen.2.1 46 = .ok (.iload_n 2, 1) := by decide +kernel
theorem d_Mod_lengthen_47 : decode M_Mod_lengthen.2.1 47 = .ok (.iconst 1, 1) := by decide +kernel
theorem d_Mod_lengthen_48 : decode M_Mod_lengthen.2.1 48 = .ok (.isub, 1) := by decide +kernel
theorem d_Mod_lengthen_49 : decode M_Mod_lengthen.2.1 49 = .ok (.iaload, 1) := by decide +kernel
theorem d_Mod_lengthen_50 : decode M_Mod_lengthen.2.1 50 = .ok (.iastore, 1) := by decide +kernel
theorem d_Mod_lengthen_51 : decode M_Mod_lengthen.2.1 51 = .ok (.aload_n 0, 1) := by decide +kernel
theorem d_Mod_lengthen_52 : decode M_Mod_lengthen.2.1 52 = .ok (.dup, 1) := by decide +kernel
theorem d_Mod_lengthen_53 : decode M_Mod_lengthen.2.1 53 = .ok (.getfield 91, 3) := by decide +kernel
theorem d_Mod_lengthen_56 : decode M_Mod_lengthen.2.1 56 = .ok (.iconst 1, 1) := by decide +kernel
theorem d_Mod_lengthen_57 : decode M_Mod_lengthen.2.1 57 = .ok (.iadd, 1) := by decide +kernel
theorem d_Mod_lengthen_58 : decode M_Mod_lengthen.2.1 58 = .ok (.putfield 91, 3) := by decide +kernel
theorem d_Mod_lengthen_61 : decode M_Mod_lengthen.2.1 61 = .ok (.iinc 3 1, 3) := by decide +kernel
theorem d_Mod_lengthen_64 : decode M_Mod_lengthen.2.1 64 = .ok (.goto (-40), 3) := by decide +kernel
theorem d_Mod_lengthen_67 : decode M_Mod_lengthen.2.1 67 = .ok (.iconst 0, 1) := by decide +kernel
theorem d_Mod_lengthen_68 : decode M_Mod_lengthen.2.1 68 = .ok (.istore_n 1, 1) := by decide +kernel
theorem d_Mod_lengthen_69 : decode M_Mod_lengthen.2.1 69 = .ok (.goto 57, 3) := by decide +kernel
theorem d_Mod_lengthen_72 : decode M_Mod_lengthen.2.1 72 = .ok (.iload_n 1, 1) := by decide +kernel
theorem d_Mod_lengthen_73 : decode M_Mod_lengthen.2.1 73 = .ok (.ifCond .le 26, 3) := by decide +kernel
theorem d_Mod_lengthen_76 : decode M_Mod_lengthen.2.1 76 = .ok (.aload_n 0, 1) := by decide +kernel
theorem d_Mod_lengthen_77 : decode M_Mod_lengthen.2.1 77 = .ok (.getfield 26, 3) := by decide +kernel
theorem d_Mod_lengthen_80 : decode M_Mod_lengthen.2.1 80 = .ok (.iload_n 2, 1) := by decide +kernel
theorem d_Mod_lengthen_81 : decode M_Mod_lengthen.2.1 81 = .ok (.iaload, 1) := by decide +kernel
theorem d_Mod_lengthen_82 : decode M_Mod_lengthen.2.1 82 = .ok (.aload_n 0, 1) := by decide +kernel
theorem d_Mod_lengthen_83 : decode M_Mod_lengthen.2.1 83 = .ok (.getfield 26, 3) := by decide +kernel
theorem d_Mod_lengthen_86 : decode M_Mod_lengthen.2.1 86 = .ok (.iload_n 2, 1) := by decide +kernel
theorem d_Mod_lengthen_87 : decode M_Mod_lengthen.2.1 87 = .ok (.iconst 1, 1) := by decide +kernel
theorem d_Mod_lengthen_88 : decode M_Mod_lengthen.2.1 88 = .ok (.isub, 1) := by decide +kernel
theorem d_Mod_lengthen_89 : decode M_Mod_lengthen.2.1 89 = .ok (.iaload, 1) := by decide +kernel
theorem d_Mod_lengthen_90 : decode M_Mod_lengthen.2.1 90 = .ok (.if_icmp .ne 9, 3) := by decide +kernel
theorem d_Mod_lengthen_93 : decode M_Mod_lengthen.2.1 93 = .ok (.iload_n 1, 1) := by decide +kernel
theorem d_Mod_lengthen_94 : decode M_Mod_lengthen.2.1 94 = .ok (.iconst 1, 1) := by decide +kernel
theorem d_Mod_lengthen_95 : decode M_Mod_lengthen.2.1 95 = .ok (.iadd, 1) := by decide +kernel
theorem d_Mod_lengthen_96 : decode M_Mod_lengthen.2.1 96 = .ok (.goto 4, 3) := by decide +kernel
theorem d_Mod_lengthen_99 : decode M_Mod_lengthen.2.1 99 = .ok (.iconst 1, 1) := by decide +kernel
theorem d_Mod_lengthen_100 : decode M_Mod_lengthen.2.1 100 = .ok (.istore_n 1, 1) := by decide +kernel
theorem d_Mod_lengthen_101 : decode M_Mod_lengthen.2.1 101 = .ok (.aload_n 0, 1) := by decide +kernel
theorem d_Mod_lengthen_102 : decode M_Mod_lengthen.2.1 102 = .ok (.getfield 23, 3) := by decide +kernel
theorem d_Mod_lengthen_105 : decode M_Mod_lengthen.2.1 105 = .ok (.aload_n 0, 1) := by decide +kernel
theorem d_Mod_lengthen_106 : decode M_Mod_lengthen.2.1 106 = .ok (.getfield 91, 3) := by decide +kernel
theorem d_Mod_lengthen_109 : decode M_Mod_lengthen.2.1 109 = .ok (.aload_n 0, 1) := by decide +kernel
theorem d_Mod_lengthen_110 : decode M_Mod_lengthen.2.1 110 = .ok (.getfield 26, 3) := by decide +kernel
theorem d_Mod_lengthen_113 : decode M_Mod_lengthen.2.1 113 = .ok (.iload_n 2, 1) := by decide +kernel
theorem d_Mod_lengthen_114 : decode M_Mod_lengthen.2.1 114 = .ok (.iaload, 1) := by decide +kernel
theorem d_Mod_lengthen_115 : decode M_Mod_lengthen.2.1 115 = .ok (.iastore, 1) := by decide +kernel
theorem d_Mod_lengthen_116 : decode M_Mod_lengthen.2.1 116 = .ok (.aload_n 0, 1) := by decide +kernel
theorem d_Mod_lengthen_117 : decode M_Mod_lengthen.2.1 117 = .ok (.dup, 1) := by decide +kernel
theorem d_Mod_lengthen_118 : decode M_Mod_lengthen.2.1 118 = .ok (.getfield 91, 3) := by decide +kernel
theorem d_Mod_lengthen_121 : decode M_Mod_lengthen.2.1 121 = .ok (.iconst 1, 1) := by decide +kernel
theorem d_Mod_lengthen_122 : decode M_Mod_lengthen.2.1 122 = .ok (.iadd, 1) := by decide +kernel
theorem d_Mod_lengthen_123 : decode M_Mod_lengthen.2.1 123 = .ok (.putfield 91, 3) := by decide +kernel
theorem d_Mod_lengthen_126 : decode M_Mod_lengthen.2.1 126 = .ok (.iinc 2 1, 3) := by decide +kernel
theorem d_Mod_lengthen_129 : decode M_Mod_lengthen.2.1 129 = .ok (.goto (-120), 3) := by decide +kernel
theorem d_Mod_lengthen_132 : decode M_Mod_lengthen.2.1 132 = .ok (.iload_n 1, 1) := by decide +kernel
theorem d_Mod_lengthen_133 : decode M_Mod_lengthen.2.1 133 = .ok (.iconst 4, 1) := by decide +kernel
theorem d_Mod_lengthen_134 : decode M_Mod_lengthen.2.1 134 = .ok (.if_icmp .ge 7, 3) := by decide +kernel
theorem d_Mod_lengthen_137 : decode M_Mod_lengthen.2.1 137 = .ok (.iconst 1, 1) := by decide +kernel
theorem d_Mod_lengthen_138 : decode M_Mod_lengthen.2.1 138 = .ok (.goto 4, 3) := by decide +kernel
theorem d_Mod_lengthen_141 : decode M_Mod_lengthen.2.1 141 = .ok (.iconst 0, 1) := by decide +kernel
theorem d_Mod_lengthen_142 : decode M_Mod_lengthen.2.1 142 = .ok (.ireturn, 1) := by decide +kernel
theorem d_Mod_before_0 : decode M_Mod_before.2.1 0 = .ok (.iconst 0, 1) := by decide +kernel
theorem d_Mod_before_1 : decode M_Mod_before.2.1 1 = .ok (.istore_n 3, 1) := by decide +kernel
theorem d_Mod_before_2 : decode M_Mod_before.2.1 2 = .ok (.iload_n 3, 1) := by decide +kernel
theorem d_Mod_before_3 : decode M_Mod_before.2.1 3 = .ok (.aload_n 0, 1) := by decide +kernel
theorem d_Mod_before_4 : decode M_Mod_before.2.1 4 = .ok (.getfield 98, 3) := by decide +kernel
theorem d_Mod_before_7 : decode M_Mod_before.2.1 7 = .ok (.if_icmp .ge 59, 3) := by decide +kernel
theorem d_Mod_before_10 : decode M_Mod_before.2.1 10 = .ok (.aload_n 0, 1) := by decide +kernel
theorem d_Mod_before_11 : decode M_Mod_before.2.1 11 = .ok (.getfield 26, 3) := by decide +kernel
theorem d_Mod_before_14 : decode M_Mod_before.2.1 14 = .ok (.iload_n 1, 1) := by decide +kernel
theorem d_Mod_before_15 : decode M_Mod_before.2.1 15 = .ok (.iload_n 3, 1) := by decide +kernel
theorem d_Mod_before_16 : decode M_Mod_before.2.1 16 = .ok (.iadd, 1) := by decide +kernel
theorem d_Mod_before_17 : decode M_Mod_before.2.1 17 = .ok (.aload_n 0, 1) := by decide +kernel
theorem d_Mod_before_18 : decode M_Mod_before.2.1 18 = .ok (.getfield 98, 3) := by decide +kernel
theorem d_Mod_before_21 : decode M_Mod_before.2.1 21 = .ok (.irem, 1) := by decide +kernel
theorem d_Mod_before_22 : decode M_Mod_before.2.1 22 = .ok (.iaload, 1) := by decide +kernel
theorem d_Mod_before_23 : decode M_Mod_before.2.1 23 = .ok (.istore 4, 2) := by decide +kernel
theorem d_Mod_before_25 : decode M_Mod_before.2.1 25 = .ok (.aload_n 0, 1) := by decide +kernel
theorem d_Mod_before_26 : decode M_Mod_before.2.1 26 = .ok (.getfield 26, 3) := by decide +kernel
theorem d_Mod_before_29 : decode M_Mod_before.2.1 29 = .ok (.iload_n 2, 1) := by decide +kernel
theorem d_Mod_before_30 : decode M_Mod_before.2.1 30 = .ok (.iload_n 3, 1) := by decide +kernel
theorem d_Mod_before_31 : decode M_Mod_before.2.1 31 = .ok (.iadd, 1) := by decide +kernel
theorem d_Mod_before_32 : decode M_Mod_before.2.1 32 = .ok (.aload_n 0, 1) := by decide +kernel
theorem d_Mod_before_33 : decode M_Mod_before.2.1 33 = .ok (.getfield 98, 3) := by decide +kernel
theorem d_Mod_before_36 : decode M_Mod_before.2.1 36 = .ok (.irem, 1) := by decide +kernel
theorem d_Mod_before_37 : decode M_Mod_before.2.1 37 = .ok (.iaload, 1) := by decide +kernel
theorem d_Mod_before_38 : decode M_Mod_before.2.1 38 = .ok (.istore 5, 2) := by decide +kernel
theorem d_Mod_before_40 : decode M_Mod_before.2.1 40 = .ok (.iload 4, 2) := by decide +kernel
theorem d_Mod_before_42 : decode M_Mod_before.2.1 42 = .ok (.iload 5, 2) := by decide +kernel
theorem d_Mod_before_44 : decode M_Mod_before.2.1 44 = .ok (.if_icmp .eq 16, 3) := by decide +kernel
theorem d_Mod_before_47 : decode M_Mod_before.2.1 47 = .ok (.iload 4, 2) := by decide +kernel
theorem d_Mod_before_49 : decode M_Mod_before.2.1 49 = .ok (.iload 5, 2) := by decide +kernel
theorem d_Mod_before_51 : decode M_Mod_before.2.1 51 = .ok (.if_icmp .ge 7, 3) := by decide +kernel
theorem d_Mod_before_54 : decode M_Mod_before.2.1 54 = .ok (.iconst 1, 1) := by decide +kernel
theorem d_Mod_before_55 : decode M_Mod_before.2.1 55 = .ok (.goto 4, 3) := by decide +kernel
theorem d_Mod_before_58 : decode M_Mod_before.2.1 58 = .ok (.iconst 0, 1) := by decide +kernel
theorem d_Mod_before_59 : decode M_Mod_before.2.1 59 = .ok (.ireturn, 1) := by decide +kernel
theorem d_Mod_before_60 : decode M_Mod_before.2.1 60 = .ok (.iinc 3 1, 3) := by decide +kernel
theorem d_Mod_before_63 : decode M_Mod_before.2.1 63 = .ok (.goto (-61), 3) := by decide +kernel
theorem d_Mod_before_66 : decode M_Mod_before.2.1 66 = .ok (.iload_n 1, 1) := by decide +kernel
theorem d_Mod_before_67 : decode M_Mod_before.2.1 67 = .ok (.iload_n 2, 1) := by decide +kernel
theorem d_Mod_before_68 : decode M_Mod_before.2.1 68 = .ok (.if_icmp .ge 7, 3) := by decide +kernel
theorem d_Mod_before_71 : decode M_Mod_before.2.1 71 = .ok (.iconst 1, 1) := by decide +kernel
theorem d_Mod_before_72 : decode M_Mod_before.2.1 72 = .ok (.goto 4, 3) := by decide +kernel
theorem d_Mod_before_75 : decode M_Mod_before.2.1 75 = .ok (.iconst 0, 1) := by decide +kernel
theorem d_Mod_before_76 : decode M_Mod_before.2.1 76 = .ok (.ireturn, 1) := by decide +kernel
theorem d_Mod_sort_0 : decode M_Mod_sort.2.1 0 = .ok (.iconst 0, 1) := by decide +kernel
theorem d_Mod_sort_1 : decode M_Mod_sort.2.1 1 = .ok (.istore_n 1, 1) := by decide +kernel
theorem d_Mod_sort_2 : decode M_Mod_sort.2.1 2 = .ok (.iload_n 1, 1) := by decide +kernel
theorem d_Mod_sort_3 : decode M_Mod_sort.2.1 3 = .ok (.aload_n 0, 1) := by decide +kernel
theorem d_Mod_sort_4 : decode M_Mod_sort.2.1 4 = .ok (.getfield 98, 3) := by decide +kernel
theorem d_Mod_sort_7 : decode M_Mod_sort.2.1 7 = .ok (.if_icmp .ge 89, 3) := by decide +kernel
theorem d_Mod_sort_10 : decode M_Mod_sort.2.1 10 = .ok (.iconst 0, 1) := by decide +kernel
theorem d_Mod_sort_11 : decode M_Mod_sort.2.1 11 = .ok (.istore_n 2, 1) := by decide +kernel
theorem d_Mod_sort_12 : decode M_Mod_sort.2.1 12 = .ok (.iconst 0, 1) := by decide +kernel
theorem d_Mod_sort_13 : decode M_Mod_sort.2.1 13 = .ok (.istore_n 3, 1) := by decide +kernel
theorem d_Mod_sort_14 : decode M_Mod_sort.2.1 14 = .ok (.iload_n 3, 1) := by decide +kernel
theorem d_Mod_sort_15 : decode M_Mod_sort.2.1 15 = .ok (.aload_n 0, 1) := by decide +kernel
theorem d_Mod_sort_16 : decode M_Mod_sort.2.1 16 = .ok (.getfield 98, 3) := by decide +kernel
theorem d_Mod_sort_19 : decode M_Mod_sort.2.1 19 = .ok (.if_icmp .ge 31, 3) := by decide +kernel
theorem d_Mod_sort_22 : decode M_Mod_sort.2.1 22 = .ok (.iload_n 2, 1) := by decide +kernel
theorem d_Mod_sort_23 : decode M_Mod_sort.2.1 23 = .ok (.iload_n 3, 1) := by decide +kernel
theorem d_Mod_sort_24 : decode M_Mod_sort.2.1 24 = .ok (.iload_n 1, 1) := by decide +kernel
theorem d_Mod_sort_25 : decode M_Mod_sort.2.1 25 = .ok (.if_icmp .eq 16, 3) := by decide +kernel
theorem d_Mod_sort_28 : decode M_Mod_sort.2.1 28 = .ok (.aload_n 0, 1) := by decide +kernel
theorem d_Mod_sort_29 : decode M_Mod_sort.2.1 29 = .ok (.iload_n 3, 1) := by decide +kernel
theorem d_Mod_sort_30 : decode M_Mod_sort.2.1 30 = .ok (.iload_n 1, 1) := by decide +kernel
theorem d_Mod_sort_31 : decode M_Mod_sort.2.1 31 = .ok (.invokevirtual 101, 3) := by decide +kernel
theorem d_Mod_sort_34 : decode M_Mod_sort.2.1 34 = .ok (.ifCond .eq 7, 3) := by decide +kernel
theorem d_Mod_sort_37 : decode M_Mod_sort.2.1 37 = .ok (.iconst 1, 1) := by decide +kernel
theorem d_Mod_sort_38 : decode M_Mod_sort.2.1 38 = .ok (.goto 4, 3) := by decide +kernel
theorem d_Mod_sort_41 : decode M_Mod_sort.2.1 41 = .ok (.iconst 0, 1) := by decide +kernel
theorem d_Mod_sort_42 : decode M_Mod_sort.2.1 42 = .ok (.iadd, 1) := by decide +kernel
theorem d_Mod_sort_43 : decode M_Mod_sort.2.1 43 = .ok (.istore_n 2, 1) := by decide +kernel
theorem d_Mod_sort_44 : decode M_Mod_sort.2.1 44 = .ok (.iinc 3 1, 3) := by decide +kernel
theorem d_Mod_sort_47 : decode M_Mod_sort.2.1 47 = .ok (.goto (-33), 3) := by decide +kernel
theorem d_Mod_sort_50 : decode M_Mod_sort.2.1 50 = .ok (.aload_n 0, 1) := by decide +kernel
theorem d_Mod_sort_51 : decode M_Mod_sort.2.1 51 = .ok (.getfield 29, 3) := by decide +kernel
theorem d_Mod_sort_54 : decode M_Mod_sort.2.1 54 = .ok (.iload_n 2, 1) := by decide +kernel
theorem d_Mod_sort_55 : decode M_Mod_sort.2.1 55 = .ok (.aload_n 0, 1) := by decide +kernel
theorem d_Mod_sort_56 : decode M_Mod_sort.2.1 56 = .ok (.getfield 26, 3) := by decide +kernel
theorem d_Mod_sort_59 : decode M_Mod_sort.2.1 59 = .ok (.iload_n 1, 1) := by decide +kernel
theorem d_Mod_sort_60 : decode M_Mod_sort.2.1 60 = .ok (.aload_n 0, 1) := by decide +kernel
theorem d_Mod_sort_61 : decode M_Mod_sort.2.1 61 = .ok (.getfield 98, 3) := by decide +kernel
theorem d_Mod_sort_64 : decode M_Mod_sort.2.1 64 = .ok (.iadd, 1) := by decide +kernel
theorem d_Mod_sort_65 : decode M_Mod_sort.2.1 65 = .ok (.iconst 1, 1) := by decide +kernel
theorem d_Mod_sort_66 : decode M_Mod_sort.2.1 66 = .ok (.isub, 1) := by decide +kernel
theorem d_Mod_sort_67 : decode M_Mod_sort.2.1 67 = .ok (.aload_n 0, 1) := by decide +kernel
theorem d_Mod_sort_68 : decode M_Mod_sort.2.1 68 = .ok (.getfield 98, 3) := by decide +kernel
theorem d_Mod_sort_71 : decode M_Mod_sort.2.1 71 = .ok (.irem, 1) := by decide +kernel
theorem d_Mod_sort_72 : decode M_Mod_sort.2.1 72 = .ok (.iaload, 1) := by decide +kernel
theorem d_Mod_sort_73 : decode M_Mod_sort.2.1 73 = .ok (.iastore, 1) := by decide +kernel
theorem d_Mod_sort_74 : decode M_Mod_sort.2.1 74 = .ok (.aload_n 0, 1) := by decide +kernel
theorem d_Mod_sort_75 : decode M_Mod_sort.2.1 75 = .ok (.iload_n 1, 1) := by decide +kernel
theorem d_Mod_sort_76 : decode M_Mod_sort.2.1 76 = .ok (.ifCond .ne 7, 3) := by decide +kernel
theorem d_Mod_sort_79 : decode M_Mod_sort.2.1 79 = .ok (.iload_n 2, 1) := by decide +kernel
theorem d_Mod_sort_80 : decode M_Mod_sort.2.1 80 = .ok (.goto 7, 3) := by decide +kernel
theorem d_Mod_sort_83 : decode M_Mod_sort.2.1 83 = .ok (.aload_n 0, 1) := by decide +kernel
theorem d_Mod_sort_84 : decode M_Mod_sort.2.1 84 = .ok (.getfield 105, 3) := by decide +kernel
theorem d_Mod_sort_87 : decode M_Mod_sort.2.1 87 = .ok (.putfield 105, 3) := by decide +kernel
theorem d_Mod_sort_90 : decode M_Mod_sort.2.1 90 = .ok (.iinc 1 1, 3) := by decide +kernel
theorem d_Mod_sort_93 : decode M_Mod_sort.2.1 93 = .ok (.goto (-91), 3) := by decide +kernel
theorem d_Mod_sort_96 : decode M_Mod_sort.2.1 96 = .ok (.return_, 1) := by decide +kernel
theorem d_Mod_unsort_0 : decode M_Mod_unsort.2.1 0 = .ok (.iconst 0, 1) := by decide +kernel
theorem d_Mod_unsort_1 : decode M_Mod_unsort.2.1 1 = .ok (.istore_n 1, 1) := by decide +kernel
theorem d_Mod_unsort_2 : decode M_Mod_unsort.2.1 2 = .ok (.iload_n 1, 1) := by decide +kernel
theorem d_Mod_unsort_3 : decode M_Mod_unsort.2.1 3 = .ok (.aload_n 0, 1) := by decide +kernel
theorem d_Mod_unsort_4 : decode M_Mod_unsort.2.1 4 = .ok (.getfield 98, 3) := by decide +kernel
theorem d_Mod_unsort_7 : decode M_Mod_unsort.2.1 7 = .ok (.if_icmp .ge 77, 3) := by decide +kernel
theorem d_Mod_unsort_10 : decode M_Mod_unsort.2.1 10 = .ok (.iconst 0, 1) := by decide +kernel
theorem d_Mod_unsort_11 : decode M_Mod_unsort.2.1 11 = .ok (.istore_n 2, 1) := by decide +kernel
theorem d_Mod_unsort_12 : decode M_Mod_unsort.2.1 12 = .ok (.iconst 0, 1) := by decide +kernel
theorem d_Mod_unsort_13 : decode M_Mod_unsort.2.1 13 = .ok (.istore_n 3, 1) := by decide +kernel
theorem d_Mod_unsort_14 : decode M_Mod_unsort.2.1 14 = .ok (.iload_n 3, 1) := by decide +kernel
theorem d_Mod_unsort_15 : decode M_Mod_unsort.2.1 15 = .ok (.aload_n 0, 1) := by decide +kernel
theorem d_Mod_unsort_16 : decode M_Mod_unsort.2.1 16 = .ok (.getfield 98, 3) := by decide +kernel
theorem d_Mod_unsort_19 : decode M_Mod_unsort.2.1 19 = .ok (.if_icmp .ge 52, 3) := by decide +kernel
theorem d_Mod_unsort_22 : decode M_Mod_unsort.2.1 22 = .ok (.iload_n 2, 1) := by decide +kernel
theorem d_Mod_unsort_23 : decode M_Mod_unsort.2.1 23 = .ok (.aload_n 0, 1) := by decide +kernel
theorem d_Mod_unsort_24 : decode M_Mod_unsort.2.1 24 = .ok (.getfield 29, 3) := by decide +kernel
theorem d_Mod_unsort_27 : decode M_Mod_unsort.2.1 27 = .ok (.iload_n 3, 1) := by decide +kernel
theorem d_Mod_unsort_28 : decode M_Mod_unsort.2.1 28 = .ok (.iaload, 1) := by decide +kernel
theorem d_Mod_unsort_29 : decode M_Mod_unsort.2.1 29 = .ok (.aload_n 0, 1) := by decide +kernel
theorem d_Mod_unsort_30 : decode M_Mod_unsort.2.1 30 = .ok (.getfield 29, 3) := by decide +kernel
theorem d_Mod_unsort_33 : decode M_Mod_unsort.2.1 33 = .ok (.iload_n 1, 1) := by decide +kernel
theorem d_Mod_unsort_34 : decode M_Mod_unsort.2.1 34 = .ok (.iaload, 1) := by decide +kernel
theorem d_Mod_unsort_35 : decode M_Mod_unsort.2.1 35 = .ok (.if_icmp .lt 23, 3) := by decide +kernel
theorem d_Mod_unsort_38 : decode M_Mod_unsort.2.1 38 = .ok (.aload_n 0, 1) := by decide +kernel
theorem d_Mod_unsort_39 : decode M_Mod_unsort.2.1 39 = .ok (.getfield 29, 3) := by decide +kernel
theorem d_Mod_unsort_42 : decode M_Mod_unsort.2.1 42 = .ok (.iload_n 3, 1) := by decide +kernel
theorem d_Mod_unsort_43 : decode M_Mod_unsort.2.1 43 = .ok (.iaload, 1) := by decide +kernel
theorem d_Mod_unsort_44 : decode M_Mod_unsort.2.1 44 = .ok (.aload_n 0, 1) := by decide +kernel
theorem d_Mod_unsort_45 : decode M_Mod_unsort.2.1 45 = .ok (.getfield 29, 3) := by decide +kernel
theorem d_Mod_unsort_48 : decode M_Mod_unsort.2.1 48 = .ok (.iload_n 1, 1) := by decide +kernel
theorem d_Mod_unsort_49 : decode M_Mod_unsort.2.1 49 = .ok (.iaload, 1) := by decide +kernel
theorem d_Mod_unsort_50 : decode M_Mod_unsort.2.1 50 = .ok (.if_icmp .ne 12, 3) := by decide +kernel
theorem d_Mod_unsort_53 : decode M_Mod_unsort.2.1 53 = .ok (.iload_n 3, 1) := by decide +kernel
theorem d_Mod_unsort_54 : decode M_Mod_unsort.2.1 54 = .ok (.iload_n 1, 1) := by decide +kernel
theorem d_Mod_unsort_55 : decode M_Mod_unsort.2.1 55 = .ok (.if_icmp .ge 7, 3) := by decide +kernel
theorem d_Mod_unsort_58 : decode M_Mod_unsort.2.1 58 = .ok (.iconst 1, 1) := by decide +kernel
theorem d_Mod_unsort_59 : decode M_Mod_unsort.2.1 59 = .ok (.goto 4, 3) := by decide +kernel
theorem d_Mod_unsort_62 : decode M_Mod_unsort.2.1 62 = .ok (.iconst 0, 1) := by decide +kernel
theorem d_Mod_unsort_63 : decode M_Mod_unsort.2.1 63 = .ok (.iadd, 1) := by decide +kernel
theorem d_Mod_unsort_64 : decode M_Mod_unsort.2.1 64 = .ok (.istore_n 2, 1) := by decide +kernel
theorem d_Mod_unsort_65 : decode M_Mod_unsort.2.1 65 = .ok (.iinc 3 1, 3) := by decide +kernel
theorem d_Mod_unsort_68 : decode M_Mod_unsort.2.1 68 = .ok (.goto (-54), 3) := by decide +kernel
theorem d_Mod_unsort_71 : decode M_Mod_unsort.2.1 71 = .ok (.aload_n 0, 1) := by decide +kernel
theorem d_Mod_unsort_72 : decode M_Mod_unsort.2.1 72 = .ok (.getfield 54, 3) := by decide +kernel
theorem d_Mod_unsort_75 : decode M_Mod_unsort.2.1 75 = .ok (.iload_n 2, 1) := by decide +kernel
theorem d_Mod_unsort_76 : decode M_Mod_unsort.2.1 76 = .ok (.iload_n 1, 1) := by decide +kernel
theorem d_Mod_unsort_77 : decode M_Mod_unsort.2.1 77 = .ok (.iastore, 1) := by decide +kernel
theorem d_Mod_unsort_78 : decode M_Mod_unsort.2.1 78 = .ok (.iinc 1 1, 3) := by decide +kernel
theorem d_Mod_unsort_81 : decode M_Mod_unsort.2.1 81 = .ok (.goto (-79), 3) := by decide +kernel
theorem d_Mod_unsort_84 : decode M_Mod_unsort.2.1 84 = .ok (.aload_n 0, 1) := by decide +kernel
theorem d_Mod_unsort_85 : decode M_Mod_unsort.2.1 85 = .ok (.getfield 105, 3) := by decide +kernel
theorem d_Mod_unsort_88 : decode M_Mod_unsort.2.1 88 = .ok (.istore_n 1, 1) := by decide +kernel
theorem d_Mod_unsort_89 : decode M_Mod_unsort.2.1 89 = .ok (.iconst 0, 1) := by decide +kernel
theorem d_Mod_unsort_90 : decode M_Mod_unsort.2.1 90 = .ok (.istore_n 2, 1) := by decide +kernel
theorem d_Mod_unsort_91 : decode M_Mod_unsort.2.1 91 = .ok (.iload_n 2, 1) := by decide +kernel
theorem d_Mod_unsort_92 : decode M_Mod_unsort.2.1 92 = .ok (.aload_n 0, 1) := by decide +kernel
theorem d_Mod_unsort_93 : decode M_Mod_unsort.2.1 93 = .ok (.getfield 98, 3) := by decide +kernel
theorem d_Mod_unsort_96 : decode M_Mod_unsort.2.1 96 = .ok (.if_icmp .ge 28, 3) := by decide +kernel
theorem d_Mod_unsort_99 : decode M_Mod_unsort.2.1 99 = .ok (.aload_n 0, 1) := by decide +kernel
theorem d_Mod_unsort_100 : decode M_Mod_unsort.2.1 100 = .ok (.getfield 54, 3) := by decide +kernel
theorem d_Mod_unsort_103 : decode M_Mod_unsort.2.1 103 = .ok (.iload_n 1, 1) := by decide +kernel
theorem d_Mod_unsort_104 : decode M_Mod_unsort.2.1 104 = .ok (.iaload, 1) := by decide +kernel
theorem d_Mod_unsort_105 : decode M_Mod_unsort.2.1 105 = .ok (.istore_n 1, 1) := by decide +kernel
theorem d_Mod_unsort_106 : decode M_Mod_unsort.2.1 106 = .ok (.aload_n 0, 1) := by decide +kernel
theorem d_Mod_unsort_107 : decode M_Mod_unsort.2.1 107 = .ok (.getfield 26, 3) := by decide +kernel
theorem d_Mod_unsort_110 : decode M_Mod_unsort.2.1 110 = .ok (.iload_n 2, 1) := by decide +kernel
theorem d_Mod_unsort_111 : decode M_Mod_unsort.2.1 111 = .ok (.aload_n 0, 1) := by decide +kernel
theorem d_Mod_unsort_112 : decode M_Mod_unsort.2.1 112 = .ok (.getfield 29, 3) := by decide +kernel
theorem d_Mod_unsort_115 : decode M_Mod_unsort.2.1 115 = .ok (.iload_n 1, 1) := by decide +kernel
theorem d_Mod_unsort_116 : decode M_Mod_unsort.2.1 116 = .ok (.iaload, 1) := by decide +kernel
theorem d_Mod_unsort_117 : decode M_Mod_unsort.2.1 117 = .ok (.iastore, 1) := by decide +kernel
theorem d_Mod_unsort_118 : decode M_Mod_unsort.2.1 118 = .ok (.iinc 2 1, 3) := by decide +kernel
theorem d_Mod_unsort_121 : decode M_Mod_unsort.2.1 121 = .ok (.goto (-30), 3) := by decide +kernel
theorem d_Mod_unsort_124 : decode M_Mod_unsort.2.1 124 = .ok (.return_, 1) := by decide +kernel
theorem d_Mod_listUsed_0 : decode M_Mod_listUsed.2.1 0 = .ok (.aload_n 0, 1) := by decide +kernel
theorem d_Mod_listUsed_1 : decode M_Mod_listUsed.2.1 1 = .ok (.iconst 0, 1) := by decide +kernel
theorem d_Mod_listUsed_2 : decode M_Mod_listUsed.2.1 2 = .ok (.putfield 108, 3) := by decide +kernel
theorem d_Mod_listUsed_5 : decode M_Mod_listUsed.2.1 5 = .ok (.iconst 0, 1) := by decide +kernel
theorem d_Mod_listUsed_6 : decode M_Mod_listUsed.2.1 6 = .ok (.istore_n 1, 1) := by decide +kernel
theorem d_Mod_listUsed_7 : decode M_Mod_listUsed.2.1 7 = .ok (.iload_n 1, 1) := by decide +kernel
theorem d_Mod_listUsed_8 : decode M_Mod_listUsed.2.1 8 = .ok (.sipush 256, 3) := by decide +kernel
theorem d_Mod_listUsed_11 : decode M_Mod_listUsed.2.1 11 = .ok (.if_icmp .ge 38, 3) := by decide +kernel
theorem d_Mod_listUsed_14 : decode M_Mod_listUsed.2.1 14 = .ok (.aload_n 0, 1) := by decide +kernel
theorem d_Mod_listUsed_15 : decode M_Mod_listUsed.2.1 15 = .ok (.getfield 35, 3) := by decide +kernel
theorem d_Mod_listUsed_18 : decode M_Mod_listUsed.2.1 18 = .ok (.iload_n 1, 1) := by decide +kernel
theorem d_Mod_listUsed_19 : decode M_Mod_listUsed.2.1 19 = .ok (.baload, 1) := by decide +kernel
theorem d_Mod_listUsed_20 : decode M_Mod_listUsed.2.1 20 = .ok (.ifCond .eq 23, 3) := by decide +kernel
theorem d_Mod_listUsed_23 : decode M_Mod_listUsed.2.1 23 = .ok (.aload_n 0, 1) := by decide +kernel
theorem d_Mod_listUsed_24 : decode M_Mod_listUsed.2.1 24 = .ok (.getfield 39, 3) := by decide +kernel
theorem d_Mod_listUsed_27 : decode M_Mod_listUsed.2.1 27 = .ok (.aload_n 0, 1) := by decide +kernel
theorem d_Mod_listUsed_28 : decode M_Mod_listUsed.2.1 28 = .ok (.getfield 108, 3) := by decide +kernel
theorem d_Mod_listUsed_31 : decode M_Mod_listUsed.2.1 31 = .ok (.iload_n 1, 1) := by decide +kernel
theorem d_Mod_listUsed_32 : decode M_Mod_listUsed.2.1 32 = .ok (.iastore, 1) := by decide +kernel
theorem d_Mod_listUsed_33 : decode M_Mod_listUsed.2.1 33 = .ok (.aload_n 0, 1) := by decide +kernel
theorem d_Mod_listUsed_34 : decode M_Mod_listUsed.2.1 34 = .ok (.dup, 1) := by decide +kernel
theorem d_Mod_listUsed_35 : decode M_Mod_listUsed.2.1 35 = .ok (.getfield 108, 3) := by decide +kernel
theorem d_Mod_listUsed_38 : decode M_Mod_listUsed.2.1 38 = .ok (.iconst 1, 1) := by decide +kernel
theorem d_Mod_listUsed_39 : decode M_Mod_listUsed.2.1 39 = .ok (.iadd, 1) := by decide +kernel
theorem d_Mod_listUsed_40 : decode M_Mod_listUsed.2.1 40 = .ok (.putfield 108, 3) := by decide +kernel
theorem d_Mod_listUsed_43 : decode M_Mod_listUsed.2.1 43 = .ok (.iinc 1 1, 3) := by decide +kernel
theorem d_Mod_listUsed_46 : decode M_Mod_listUsed.2.1 46 = .ok (.goto (-39), 3) := by decide +kernel
theorem d_Mod_listUsed_49 : decode M_Mod_listUsed.2.1 49 = .ok (.return_, 1) := by decide +kernel
theorem d_Mod_toFront_0 : decode M_Mod_toFront.2.1 0 = .ok (.aload_n 0, 1) := by decide +kernel
theorem d_Mod_toFront_1 : decode M_Mod_toFront.2.1 1 = .ok (.getfield 39, 3) := by decide +kernel
theorem d_Mod_toFront_4 : decode M_Mod_toFront.2.1 4 = .ok (.iload_n 1, 1) := by decide +kernel
theorem d_Mod_toFront_5 : decode M_Mod_toFront.2.1 5 = .ok (.iaload, 1) := by decide +kernel
theorem d_Mod_toFront_6 : decode M_Mod_toFront.2.1 6 = .ok (.istore_n 2, 1) := by decide +kernel
theorem d_Mod_toFront_7 : decode M_Mod_toFront.2.1 7 = .ok (.iload_n 1, 1) := by decide +kernel
theorem d_Mod_toFront_8 : decode M_Mod_toFront.2.1 8 = .ok (.istore_n 3, 1) := by decide +kernel
theorem d_Mod_toFront_9 : decode M_Mod_toFront.2.1 9 = .ok (.iload_n 3, 1) := by decide +kernel
theorem d_Mod_toFront_10 : decode M_Mod_toFront.2.1 10 = .ok (.ifCond .le 23, 3) := by decide +kernel
theorem d_Mod_toFront_13 : decode M_Mod_toFront.2.1 13 = .ok (.aload_n 0, 1) := by decide +kernel
theorem d_Mod_toFront_14 : decode M_Mod_toFront.2.1 14 = .ok (.getfield 39, 3) := by decide +kernel
theorem d_Mod_toFront_17 : decode M_Mod_toFront.2.1 17 = .ok (.iload_n 3, 1) := by decide +kernel
theorem d_Mod_toFront_18 : decode M_Mod_toFront.2.1 18 = .ok (.aload_n 0, 1) := by decide +kernel
theorem d_Mod_toFront_19 : decode M_Mod_toFront.2.1 19 = .ok (.getfield 39, 3) := by decide +kernel
theorem d_Mod_toFront_22 : decode M_Mod_toFront.2.1 22 = .ok (.iload_n 3, 1) := by decide +kernel
theorem d_Mod_toFront_23 : decode M_Mod_toFront.2.1 23 = .ok (.iconst 1, 1) := by decide +kernel
theorem d_Mod_toFront_24 : decode M_Mod_toFront.2.1 24 = .ok (.isub, 1) := by decide +kernel
theorem d_Mod_toFront_25 : decode M_Mod_toFront.2.1 25 = .ok (.iaload, 1) := by decide +kernel
theorem d_Mod_toFront_26 : decode M_Mod_toFront.2.1 26 = .ok (.iastore, 1) := by decide +kernel
theorem d_Mod_toFront_27 : decode M_Mod_toFront.2.1 27 = .ok (.iinc 3 (-1), 3) := by decide +kernel
theorem d_Mod_toFront_30 : decode M_Mod_toFront.2.1 30 = .ok (.goto (-21), 3) := by decide +kernel
theorem d_Mod_toFront_33 : decode M_Mod_toFront.2.1 33 = .ok (.aload_n 0, 1) := by decide +kernel
theorem d_Mod_toFront_34 : decode M_Mod_toFront.2.1 34 = .ok (.getfield 39, 3) := by decide +kernel
theorem d_Mod_toFront_37 : decode M_Mod_toFront.2.1 37 = .ok (.iconst 0, 1) := by decide +kernel
theorem d_Mod_toFront_38 : decode M_Mod_toFront.2.1 38 = .ok (.iload_n 2, 1) := by decide +kernel
theorem d_Mod_toFront_39 : decode M_Mod_toFront.2.1 39 = .ok (.iastore, 1) := by decide +kernel
theorem d_Mod_toFront_40 : decode M_Mod_toFront.2.1 40 = .ok (.iload_n 2, 1) := by decide +kernel
theorem d_Mod_toFront_41 : decode M_Mod_toFront.2.1 41 = .ok (.ireturn, 1) := by decide +kernel
theorem d_Mod_addSymbol_0 : decode M_Mod_addSymbol.2.1 0 = .ok (.aload_n 0, 1) := by decide +kernel
theorem d_Mod_addSymbol_1 : decode M_Mod_addSymbol.2.1 1 = .ok (.getfield 32, 3) := by decide +kernel
theorem d_Mod_addSymbol_4 : decode M_Mod_addSymbol.2.1 4 = .ok (.aload_n 0, 1) := by decide +kernel
theorem d_Mod_addSymbol_5 : decode M_Mod_addSymbol.2.1 5 = .ok (.getfield 111, 3) := by decide +kernel
theorem d_Mod_addSymbol_8 : decode M_Mod_addSymbol.2.1 8 = .ok (.iload_n 1, 1) := by decide +kernel
theorem d_Mod_addSymbol_9 : decode M_Mod_addSymbol.2.1 9 = .ok (.iastore, 1) := by decide +kernel
theorem d_Mod_addSymbol_10 : decode M_Mod_addSymbol.2.1 10 = .ok (.aload_n 0, 1) := by decide +kernel
theorem d_Mod_addSymbol_11 : decode M_Mod_addSymbol.2.1 11 = .ok (.dup, 1) := by decide +kernel
theorem d_Mod_addSymbol_12 : decode M_Mod_addSymbol.2.1 12 = .ok (.getfield 111, 3) := by decide +kernel
theorem d_Mod_addSymbol_15 : decode M_Mod_addSymbol.2.1 15 = .ok (.iconst 1, 1) := by decide +kernel
theorem d_Mod_addSymbol_16 : decode M_Mod_addSymbol.2.1 16 = .ok (.iadd, 1) := by decide +kernel
theorem d_Mod_addSymbol_17 : decode M_Mod_addSymbol.2.1 17 = .ok (.putfield 111, 3) := by decide +kernel
theorem d_Mod_addSymbol_20 : decode M_Mod_addSymbol.2.1 20 = .ok (.return_, 1) := by decide +kernel
theorem d_Mod_addRun_0 : decode M_Mod_addRun.2.1 0 = .ok (.iload_n 1, 1) := by decide +kernel
theorem d_Mod_addRun_1 : decode M_Mod_addRun.2.1 1 = .ok (.istore_n 2, 1) := by decide +kernel
theorem d_Mod_addRun_2 : decode M_Mod_addRun.2.1 2 = .ok (.iload_n 2, 1) := by decide +kernel
theorem d_Mod_addRun_3 : decode M_Mod_addRun.2.1 3 = .ok (.ifCond .le 32, 3) := by decide +kernel
theorem d_Mod_addRun_6 : decode M_Mod_addRun.2.1 6 = .ok (.iload_n 2, 1) := by decide +kernel
theorem d_Mod_addRun_7 : decode M_Mod_addRun.2.1 7 = .ok (.iconst 2, 1) := by decide +kernel
theorem d_Mod_addRun_8 : decode M_Mod_addRun.2.1 8 = .ok (.irem, 1) := by decide +kernel
theorem d_Mod_addRun_9 : decode M_Mod_addRun.2.1 9 = .ok (.iconst 1, 1) := by decide +kernel
theorem d_Mod_addRun_10 : decode M_Mod_addRun.2.1 10 = .ok (.if_icmp .ne 7, 3) := by decide +kernel
theorem d_Mod_addRun_13 : decode M_Mod_addRun.2.1 13 = .ok (.iconst 0, 1) := by decide +kernel
theorem d_Mod_addRun_14 : decode M_Mod_addRun.2.1 14 = .ok (.goto 4, 3) := by decide +kernel
theorem d_Mod_addRun_17 : decode M_Mod_addRun.2.1 17 = .ok (.iconst 1, 1) := by decide +kernel
theorem d_Mod_addRun_18 : decode M_Mod_addRun.2.1 18 = .ok (.istore_n 3, 1) := by decide +kernel
theorem d_Mod_addRun_19 : decode M_Mod_addRun.2.1 19 = .ok (.aload_n 0, 1) := by decide +kernel
theorem d_Mod_addRun_20 : decode M_Mod_addRun.2.1 20 = .ok (.iload_n 3, 1) := by decide +kernel
theorem d_Mod_addRun_21 : decode M_Mod_addRun.2.1 21 = .ok (.invokevirtual 114, 3) := by decide +kernel
theorem d_Mod_addRun_24 : decode M_Mod_addRun.2.1 24 = .ok (.iload_n 2, 1) := by decide +kernel
theorem d_Mod_addRun_25 : decode M_Mod_addRun.2.1 25 = .ok (.iconst 1, 1) := by decide +kernel
theorem d_Mod_addRun_26 : decode M_Mod_addRun.2.1 26 = .ok (.isub, 1) := by decide +kernel
theorem d_Mod_addRun_27 : decode M_Mod_addRun.2.1 27 = .ok (.iload_n 3, 1) := by decide +kernel
theorem d_Mod_addRun_28 : decode M_Mod_addRun.2.1 28 = .ok (.isub, 1) := by decide +kernel
theorem d_Mod_addRun_29 : decode M_Mod_addRun.2.1 29 = .ok (.iconst 2, 1) := by decide +kernel
theorem d_Mod_addRun_30 : decode M_Mod_addRun.2.1 30 = .ok (.idiv, 1) := by decide +kernel
theorem d_Mod_addRun_31 : decode M_Mod_addRun.2.1 31 = .ok (.istore_n 2, 1) := by decide +kernel
theorem d_Mod_addRun_32 : decode M_Mod_addRun.2.1 32 = .ok (.goto (-30), 3) := by decide +kernel
theorem d_Mod_addRun_35 : decode M_Mod_addRun.2.1 35 = .ok (.return_, 1) := by decide +kernel
theorem d_Mod_makeSymbols_0 : decode M_Mod_makeSymbols.2.1 0 = .ok (.iconst 0, 1) := by decide +kernel
theorem d_Mod_makeSymbols_1 : decode M_Mod_makeSymbols.2.1 1 = .ok (.istore_n 1, 1) := by decide +kernel
theorem d_Mod_makeSymbols_2 : decode M_Mod_makeSymbols.2.1 2 = .ok (.iload_n 1, 1) := by decide +kernel
theorem d_Mod_makeSymbols_3 : decode M_Mod_makeSymbols.2.1 3 = .ok (.sipush 256, 3) := by decide +kernel
theorem d_Mod_makeSymbols_6 : decode M_Mod_makeSymbols.2.1 6 = .ok (.if_icmp .ge 16, 3) := by decide +kernel
theorem d_Mod_makeSymbols_9 : decode M_Mod_makeSymbols.2.1 9 = .ok (.aload_n 0, 1) := by decide +kernel
theorem d_Mod_makeSymbols_10 : decode M_Mod_makeSymbols.2.1 10 = .ok (.getfield 35, 3) := by decide +kernel
theorem d_Mod_makeSymbols_13 : decode M_Mod_makeSymbols.2.1 13 = .ok (.iload_n 1, 1) := by decide +kernel
theorem d_Mod_makeSymbols_14 : decode M_Mod_makeSymbols.2.1 14 = .ok (.iconst 0, 1) := by decide +kernel
theorem d_Mod_makeSymbols_15 : decode M_Mod_makeSymbols.2.1 15 = .ok (.bastore, 1) := by decide +kernel
theorem d_Mod_makeSymbols_16 : decode M_Mod_makeSymbols.2.1 16 = .ok (.iinc 1 1, 3) := by decide +kernel
theorem d_Mod_makeSymbols_19 : decode M_Mod_makeSymbols.2.1 19 = .ok (.goto (-17), 3) := by decide +kernel
theorem d_Mod_makeSymbols_22 : decode M_Mod_makeSymbols.2.1 22 = .ok (.iconst 0, 1) := by decide +kernel
theorem d_Mod_makeSymbols_23 : decode M_Mod_makeSymbols.2.1 23 = .ok (.istore_n 1, 1) := by decide +kernel
theorem d_Mod_makeSymbols_24 : decode M_Mod_makeSymbols.2.1 24 = .ok (.iload_n 1, 1) := by decide +kernel
theorem d_Mod_makeSymbols_25 : decode M_Mod_makeSymbols.2.1 25 = .ok (.aload_n 0, 1) := by decide +kernel
theorem d_Mod_makeSymbols_26 : decode M_Mod_makeSymbols.2.1 26 = .ok (.getfield 98, 3) := by decide +kernel
theorem d_Mod_makeSymbols_29 : decode M_Mod_makeSymbols.2.1 29 = .ok (.if_icmp .ge 21, 3) := by decide +kernel
theorem d_Mod_makeSymbols_32 : decode M_Mod_makeSymbols.2.1 32 = .ok (.aload_n 0, 1) := by decide +kernel
theorem d_Mod_makeSymbols_33 : decode M_Mod_makeSymbols.2.1 33 = .ok (.getfield 35, 3) := by decide +kernel
theorem d_Mod_makeSymbols_36 : decode M_Mod_makeSymbols.2.1 36 = .ok (.aload_n 0, 1) := by decide +kernel
theorem d_Mod_makeSymbols_37 : decode M_Mod_makeSymbols.2.1 37 = .ok (.getfield 26, 3) := by decide +kernel
theorem d_Mod_makeSymbols_40 : decode M_Mod_makeSymbols.2.1 40 = .ok (.iload_n 1, 1) := by decide +kernel
theorem d_Mod_makeSymbols_41 : decode M_Mod_makeSymbols.2.1 41 = .ok (.iaload, 1) := by decide +kernel
theorem d_Mod_makeSymbols_42 : decode M_Mod_makeSymbols.2.1 42 = .ok (.iconst 1, 1) := by decide +kernel
theorem d_Mod_makeSymbols_43 : decode M_Mod_makeSymbols.2.1 43 = .ok (.bastore, 1) := by decide +kernel
theorem d_Mod_makeSymbols_44 : decode M_Mod_makeSymbols.2.1 44 = .ok (.iinc 1 1, 3) := by decide +kernel
theorem d_Mod_makeSymbols_47 : decode M_Mod_makeSymbols.2.1 47 = .ok (.goto (-23), 3) := by decide +kernel
theorem d_Mod_makeSymbols_50 : decode M_Mod_makeSymbols.2.1 50 = .ok (.aload_n 0, 1) := by decide +kernel
theorem d_Mod_makeSymbols_51 : decode M_Mod_makeSymbols.2.1 51 = .ok (.invokevirtual 118, 3) := by decide +kernel
theorem d_Mod_makeSymbols_54 : decode M_Mod_makeSymbols.2.1 54 = .ok (.aload_n 0, 1) := by decide +kernel
theorem d_Mod_makeSymbols_55 : decode M_Mod_makeSymbols.2.1 55 = .ok (.iconst 0, 1) := by decide +kernel
theorem d_Mod_makeSymbols_56 : decode M_Mod_makeSymbols.2.1 56 = .ok (.putfield 111, 3) := by decide +kernel
theorem d_Mod_makeSymbols_59 : decode M_Mod_makeSymbols.2.1 59 = .ok (.iconst 0, 1) := by decide +kernel
theorem d_Mod_makeSymbols_60 : decode M_Mod_makeSymbols.2.1 60 = .ok (.istore_n 1, 1) := by decide +kernel
theorem d_Mod_makeSymbols_61 : decode M_Mod_makeSymbols.2.1 61 = .ok (.iconst 0, 1) := by decide +kernel
theorem d_Mod_makeSymbols_62 : decode M_Mod_makeSymbols.2.1 62 = .ok (.istore_n 2, 1) := by decide +kernel
theorem d_Mod_makeSymbols_63 : decode M_Mod_makeSymbols.2.1 63 = .ok (.iload_n 2, 1) := by decide +kernel
theorem d_Mod_makeSymbols_64 : decode M_Mod_makeSymbols.2.1 64 = .ok (.aload_n 0, 1) := by decide +kernel
theorem d_Mod_makeSymbols_65 : decode M_Mod_makeSymbols.2.1 65 = .ok (.getfield 98, 3) := by decide +kernel
theorem d_Mod_makeSymbols_68 : decode M_Mod_makeSymbols.2.1 68 = .ok (.if_icmp .ge 73, 3) := by decide +kernel
theorem d_Mod_makeSymbols_71 : decode M_Mod_makeSymbols.2.1 71 = .ok (.iconst 0, 1) := by decide +kernel
theorem d_Mod_makeSymbols_72 : decode M_Mod_makeSymbols.2.1 72 = .ok (.istore_n 3, 1) := by decide +kernel
theorem d_Mod_makeSymbols_73 : decode M_Mod_makeSymbols.2.1 73 = .ok (.aload_n 0, 1) := by decide +kernel
theorem d_Mod_makeSymbols_74 : decode M_Mod_makeSymbols.2.1 74 = .ok (.getfield 39, 3) := by decide +kernel
theorem d_Mod_makeSymbols_77 : decode M_Mod_makeSymbols.2.1 77 = .ok (.iload_n 3, 1) := by decide +kernel
theorem d_Mod_makeSymbols_78 : decode M_Mod_makeSymbols.2.1 78 = .ok (.iaload, 1) := by decide +kernel
theorem d_Mod_makeSymbols_79 : decode M_Mod_makeSymbols.2.1 79 = .ok (.aload_n 0, 1) := by decide +kernel
theorem d_Mod_makeSymbols_80 : decode M_Mod_makeSymbols.2.1 80 = .ok (.getfield 29, 3) := by decide +kernel
theorem d_Mod_makeSymbols_83 : decode M_Mod_makeSymbols.2.1 83 = .ok (.iload_n 2, 1) := by decide +kernel
theorem d_Mod_makeSymbols_84 : decode M_Mod_makeSymbols.2.1 84 = .ok (.iaload, 1) := by decide +kernel
theorem d_Mod_makeSymbols_85 : decode M_Mod_makeSymbols.2.1 85 = .ok (.if_icmp .eq 9, 3) := by decide +kernel
theorem d_Mod_makeSymbols_88 : decode M_Mod_makeSymbols.2.1 88 = .ok (.iinc 3 1, 3) := by decide +kernel
theorem d_Mod_makeSymbols_91 : decode M_Mod_makeSymbols.2.1 91 = .ok (.goto (-18), 3) := by decide +kernel
theorem d_Mod_makeSymbols_94 : decode M_Mod_makeSymbols.2.1 94 = .ok (.aload_n 0, 1) := by decide +kernel
theorem d_Mod_makeSymbols_95 : decode M_Mod_makeSymbols.2.1 95 = .ok (.iload_n 3, 1) := by decide +kernel
theorem d_Mod_makeSymbols_96 : decode M_Mod_makeSymbols.2.1 96 = .ok (.invokevirtual 121, 3) := by decide +kernel
theorem d_Mod_makeSymbols_99 : decode M_Mod_makeSymbols.2.1 99 = .ok (.istore 4, 2) := by decide +kernel
theorem d_Mod_makeSymbols_101 : decode M_Mod_makeSymbols.2.1 101 = .ok (.iload_n 3, 1) := by decide +kernel
theorem d_Mod_makeSymbols_102 : decode M_Mod_makeSymbols.2.1 102 = .ok (.ifCond .ne 19, 3) := by decide +kernel
theorem d_Mod_makeSymbols_105 : decode M_Mod_makeSymbols.2.1 105 = .ok (.iload_n 1, 1) := by decide +kernel
theorem d_Mod_makeSymbols_106 : decode M_Mod_makeSymbols.2.1 106 = .ok (.iload 4, 2) := by decide +kernel
theorem d_Mod_makeSymbols_108 : decode M_Mod_makeSymbols.2.1 108 = .ok (.ifCond .lt 7, 3) := by decide +kernel
theorem d_Mod_makeSymbols_111 : decode M_Mod_makeSymbols.2.1 111 = .ok (.iconst 1, 1) := by decide +kernel
theorem d_Mod_makeSymbols_112 : decode M_Mod_makeSymbols.2.1 112 = .ok (.goto 4, 3) := by decide +kernel
theorem d_Mod_makeSymbols_115 : decode M_Mod_makeSymbols.2.1 115 = .ok (.iconst 0, 1) := by decide +kernel
theorem d_Mod_makeSymbols_116 : decode M_Mod_makeSymbols.2.1 116 = .ok (.iadd, 1) := by decide +kernel
theorem d_Mod_makeSymbols_117 : decode M_Mod_makeSymbols.2.1 117 = .ok (.istore_n 1, 1) := by decide +kernel
theorem d_Mod_makeSymbols_118 : decode M_Mod_makeSymbols.2.1 118 = .ok (.goto 17, 3) := by decide +kernel
theorem d_Mod_makeSymbols_121 : decode M_Mod_makeSymbols.2.1 121 = .ok (.aload_n 0, 1) := by decide +kernel
theorem d_Mod_makeSymbols_122 : decode M_Mod_makeSymbols.2.1 122 = .ok (.iload_n 1, 1) := by decide +kernel
theorem d_Mod_makeSymbols_123 : decode M_Mod_makeSymbols.2.1 123 = .ok (.invokevirtual 125, 3) := by decide +kernel
theorem d_Mod_makeSymbols_126 : decode M_Mod_makeSymbols.2.1 126 = .ok (.iconst 0, 1) := by decide +kernel
theorem d_Mod_makeSymbols_127 : decode M_Mod_makeSymbols.2.1 127 = .ok (.istore_n 1, 1) := by decide +kernel
theorem d_Mod_makeSymbols_128 : decode M_Mod_makeSymbols.2.1 128 = .ok (.aload_n 0, 1) := by decide +kernel
theorem d_Mod_makeSymbols_129 : decode M_Mod_makeSymbols.2.1 129 = .ok (.iload_n 3, 1) := by decide +kernel
theorem d_Mod_makeSymbols_130 : decode M_Mod_makeSymbols.2.1 130 = .ok (.iconst 1, 1) := by decide +kernel
theorem d_Mod_makeSymbols_131 : decode M_Mod_makeSymbols.2.1 131 = .ok (.iadd, 1) := by decide +kernel
theorem d_Mod_makeSymbols_132 : decode M_Mod_makeSymbols.2.1 132 = .ok (.invokevirtual 114, 3) := by decide +kernel
theorem d_Mod_makeSymbols_135 : decode M_Mod_makeSymbols.2.1 135 = .ok (.iinc 2 1, 3) := by decide +kernel
theorem d_Mod_makeSymbols_138 : decode M_Mod_makeSymbols.2.1 138 = .ok (.goto (-75), 3) := by decide +kernel
theorem d_Mod_makeSymbols_141 : decode M_Mod_makeSymbols.2.1 141 = .ok (.aload_n 0, 1) := by decide +kernel
theorem d_Mod_makeSymbols_142 : decode M_Mod_makeSymbols.2.1 142 = .ok (.iload_n 1, 1) := by decide +kernel
theorem d_Mod_makeSymbols_143 : decode M_Mod_makeSymbols.2.1 143 = .ok (.invokevirtual 125, 3) := by decide +kernel
theorem d_Mod_makeSymbols_146 : decode M_Mod_makeSymbols.2.1 146 = .ok (.aload_n 0, 1) := by decide +kernel
theorem d_Mod_makeSymbols_147 : decode M_Mod_makeSymbols.2.1 147 = .ok (.aload_n 0, 1) := by decide +kernel
theorem d_Mod_makeSymbols_148 : decode M_Mod_makeSymbols.2.1 148 = .ok (.getfield 108, 3) := by decide +kernel
theorem d_Mod_makeSymbols_151 : decode M_Mod_makeSymbols.2.1 151 = .ok (.iconst 1, 1) := by decide +kernel
theorem d_Mod_makeSymbols_152 : decode M_Mod_makeSymbols.2.1 152 = .ok (.iadd, 1) := by decide +kernel
theorem d_Mod_makeSymbols_153 : decode M_Mod_makeSymbols.2.1 153 = .ok (.invokevirtual 114, 3) := by decide +kernel
theorem d_Mod_makeSymbols_156 : decode M_Mod_makeSymbols.2.1 156 = .ok (.return_, 1) := by decide +kernel
theorem d_Mod_firstTree_0 : decode M_Mod_firstTree.2.1 0 = .ok (.iconst (-1), 1) := by decide +kernel
theorem d_Mod_firstTree_1 : decode M_Mod_firstTree.2.1 1 = .ok (.istore_n 3, 1) := by decide +kernel
theorem d_Mod_firstTree_2 : decode M_Mod_firstTree.2.1 2 = .ok (.iconst 0, 1) := by decide +kernel
theorem d_Mod_firstTree_3 : decode M_Mod_firstTree.2.1 3 = .ok (.istore 4, 2) := by decide +kernel
theorem d_Mod_firstTree_5 : decode M_Mod_firstTree.2.1 5 = .ok (.iload 4, 2) := by decide +kernel
theorem d_Mod_firstTree_7 : decode M_Mod_firstTree.2.1 7 = .ok (.iload_n 1, 1) := by decide +kernel
theorem d_Mod_firstTree_8 : decode M_Mod_firstTree.2.1 8 = .ok (.if_icmp .ge 48, 3) := by decide +kernel
theorem d_Mod_firstTree_11 : decode M_Mod_firstTree.2.1 11 = .ok (.aload_n 0, 1) := by decide +kernel
theorem d_Mod_firstTree_12 : decode M_Mod_firstTree.2.1 12 = .ok (.getfield 60, 3) := by decide +kernel
theorem d_Mod_firstTree_15 : decode M_Mod_firstTree.2.1 15 = .ok (.iload 4, 2) := by decide +kernel
theorem d_Mod_firstTree_17 : decode M_Mod_firstTree.2.1 17 = .ok (.iaload, 1) := by decide +kernel
theorem d_Mod_firstTree_18 : decode M_Mod_firstTree.2.1 18 = .ok (.ifCond .ge 32, 3) := by decide +kernel
theorem d_Mod_firstTree_21 : decode M_Mod_firstTree.2.1 21 = .ok (.iload 4, 2) := by decide +kernel
theorem d_Mod_firstTree_23 : decode M_Mod_firstTree.2.1 23 = .ok (.iload_n 2, 1) := by decide +kernel
theorem d_Mod_firstTree_24 : decode M_Mod_firstTree.2.1 24 = .ok (.if_icmp .eq 26, 3) := by decide +kernel
theorem d_Mod_firstTree_27 : decode M_Mod_firstTree.2.1 27 = .ok (.iload_n 3, 1) := by decide +kernel
theorem d_Mod_firstTree_28 : decode M_Mod_firstTree.2.1 28 = .ok (.ifCond .lt 19, 3) := by decide +kernel
theorem d_Mod_firstTree_31 : decode M_Mod_firstTree.2.1 31 = .ok (.aload_n 0, 1) := by decide +kernel
theorem d_Mod_firstTree_32 : decode M_Mod_firstTree.2.1 32 = .ok (.getfield 57, 3) := by decide +kernel
theorem d_Mod_firstTree_35 : decode M_Mod_firstTree.2.1 35 = .ok (.iload 4, 2) := by decide +kernel
theorem d_Mod_firstTree_37 : decode M_Mod_firstTree.2.1 37 = .ok (.iaload, 1) := by decide +kernel
theorem d_Mod_firstTree_38 : decode M_Mod_firstTree.2.1 38 = .ok (.aload_n 0, 1) := by decide +kernel
theorem d_Mod_firstTree_39 : decode M_Mod_firstTree.2.1 39 = .ok (.getfield 57, 3) := by decide +kernel
theorem d_Mod_firstTree_42 : decode M_Mod_firstTree.2.1 42 = .ok (.iload_n 3, 1) := by decide +kernel
theorem d_Mod_firstTree_43 : decode M_Mod_firstTree.2.1 43 = .ok (.iaload, 1) := by decide +kernel
theorem d_Mod_firstTree_44 : decode M_Mod_firstTree.2.1 44 = .ok (.if_icmp .ge 6, 3) := by decide +kernel
theorem d_Mod_firstTree_47 : decode M_Mod_firstTree.2.1 47 = .ok (.iload 4, 2) := by decide +kernel
theorem d_Mod_firstTree_49 : decode M_Mod_firstTree.2.1 49 = .ok (.istore_n 3, 1) := by decide +kernel
theorem d_Mod_firstTree_50 : decode M_Mod_firstTree.2.1 50 = .ok (.iinc 4 1, 3) := by decide +kernel
theorem d_Mod_firstTree_53 : decode M_Mod_firstTree.2.1 53 = .ok (.goto (-48), 3) := by decide +kernel
theorem d_Mod_firstTree_56 : decode M_Mod_firstTree.2.1 56 = .ok (.iload_n 3, 1) := by decide +kernel
theorem d_Mod_firstTree_57 : decode M_Mod_firstTree.2.1 57 = .ok (.ireturn, 1) := by decide +kernel
theorem d_Mod_makeLengths_0 : decode M_Mod_makeLengths.2.1 0 = .ok (.aload_n 0, 1) := by decide +kernel
theorem d_Mod_makeLengths_1 : decode M_Mod_makeLengths.2.1 1 = .ok (.getfield 108, 3) := by decide +kernel
theorem d_Mod_makeLengths_4 : decode M_Mod_makeLengths.2.1 4 = .ok (.iconst 2, 1) := by decide +kernel
theorem d_Mod_makeLengths_5 : decode M_Mod_makeLengths.2.1 5 = .ok (.iadd, 1) := by decide +kernel
theorem d_Mod_makeLengths_6 : decode M_Mod_makeLengths.2.1 6 = .ok (.istore_n 2, 1) := by decide +kernel
theorem d_Mod_makeLengths_7 : decode M_Mod_makeLengths.2.1 7 = .ok (.iload_n 2, 1) := by decide +kernel
theorem d_Mod_makeLengths_8 : decode M_Mod_makeLengths.2.1 8 = .ok (.istore_n 3, 1) := by decide +kernel
theorem d_Mod_makeLengths_9 : decode M_Mod_makeLengths.2.1 9 = .ok (.iconst 0, 1) := by decide +kernel
theorem d_Mod_makeLengths_10 : decode M_Mod_makeLengths.2.1 10 = .ok (.istore 4, 2) := by decide +kernel
theorem d_Mod_makeLengths_12 : decode M_Mod_makeLengths.2.1 12 = .ok (.iload 4, 2) := by decide +kernel
theorem d_Mod_makeLengths_14 : decode M_Mod_makeLengths.2.1 14 = .ok (.iconst 2, 1) := by decide +kernel
theorem d_Mod_makeLengths_15 : decode M_Mod_makeLengths.2.1 15 = .ok (.iload_n 2, 1) := by decide +kernel
theorem d_Mod_makeLengths_16 : decode M_Mod_makeLengths.2.1 16 = .ok (.imul, 1) := by decide +kernel
theorem d_Mod_makeLengths_17 : decode M_Mod_makeLengths.2.1 17 = .ok (.if_icmp .ge 17, 3) := by decide +kernel
theorem d_Mod_makeLengths_20 : decode M_Mod_makeLengths.2.1 20 = .ok (.aload_n 0, 1) := by decide +kernel
theorem d_Mod_makeLengths_21 : decode M_Mod_makeLengths.2.1 21 = .ok (.getfield 60, 3) := by decide +kernel
theorem d_Mod_makeLengths_24 : decode M_Mod_makeLengths.2.1 24 = .ok (.iload 4, 2) := by decide +kernel
theorem d_Mod_makeLengths_26 : decode M_Mod_makeLengths.2.1 26 = .ok (.iconst (-1), 1) := by decide +kernel
theorem d_Mod_makeLengths_27 : decode M_Mod_makeLengths.2.1 27 = .ok (.iastore, 1) := by decide +kernel
theorem d_Mod_makeLengths_28 : decode M_Mod_makeLengths.2.1 28 = .ok (.iinc 4 1, 3) := by decide +kernel
theorem d_Mod_makeLengths_31 : decode M_Mod_makeLengths.2.1 31 = .ok (.goto (-19), 3) := by decide +kernel
theorem d_Mod_makeLengths_34 : decode M_Mod_makeLengths.2.1 34 = .ok (.iload_n 3, 1) := by decide +kernel
theorem d_Mod_makeLengths_35 : decode M_Mod_makeLengths.2.1 35 = .ok (.iconst 2, 1) := by decide +kernel
theorem d_Mod_makeLengths_36 : decode M_Mod_makeLengths.2.1 36 = .ok (.iload_n 2, 1) := by decide +kernel
theorem d_Mod_makeLengths_37 : decode M_Mod_makeLengths.2.1 37 = .ok (.imul, 1) := by decide +kernel
theorem d_Mod_makeLengths_38 : decode M_Mod_makeLengths.2.1 38 = .ok (.iconst 1, 1) := by decide +kernel
theorem d_Mod_makeLengths_39 : decode M_Mod_makeLengths.2.1 39 = .ok (.isub, 1) := by decide +kernel
theorem d_Mod_makeLengths_40 : decode M_Mod_makeLengths.2.1 40 = .ok (.if_icmp .ge 63, 3) := by decide +kernel
theorem d_Mod_makeLengths_43 : decode M_Mod_makeLengths.2.1 43 = .ok (.aload_n 0, 1) := by decide +kernel
theorem d_Mod_makeLengths_44 : decode M_Mod_makeLengths.2.1 44 = .ok (.iload_n 3, 1) := by decide +kernel
theorem d_Mod_makeLengths_45 : decode M_Mod_makeLengths.2.1 45 = .ok (.iconst (-1), 1) := by decide +kernel
theorem d_Mod_makeLengths_46 : decode M_Mod_makeLengths.2.1 46 = .ok (.invokevirtual 128, 3) := by decide +kernel
theorem d_Mod_makeLengths_49 : decode M_Mod_makeLengths.2.1 49 = .ok (.istore 4, 2) := by decide +kernel
theorem d_Mod_makeLengths_51 : decode M_Mod_makeLengths.2.1 51 = .ok (.aload_n 0, 1) := by decide +kernel
theorem d_Mod_makeLengths_52 : decode M_Mod_makeLengths.2.1 52 = .ok (.iload_n 3, 1) := by decide +kernel
theorem d_Mod_makeLengths_53 : decode M_Mod_makeLengths.2.1 53 = .ok (.iload 4, 2) := by decide +kernel
theorem d_Mod_makeLengths_55 : decode M_Mod_makeLengths.2.1 55 = .ok (.invokevirtual 128, 3) := by decide +kernel
theorem d_Mod_makeLengths_58 : decode M_Mod_makeLengths.2.1 58 = .ok (.istore 5, 2) := by decide +kernel
theorem d_Mod_makeLengths_60 : decode M_Mod_makeLengths.2.1 60 = .ok (.aload_n 0, 1) := by decide +kernel
theorem d_Mod_makeLengths_61 : decode M_Mod_makeLengths.2.1 61 = .ok (.getfield 57, 3) := by decide +kernel
theorem d_Mod_makeLengths_64 : decode M_Mod_makeLengths.2.1 64 = .ok (.iload_n 3, 1) := by decide +kernel
theorem d_Mod_makeLengths_65 : decode M_Mod_makeLengths.2.1 65 = .ok (.aload_n 0, 1) := by decide +kernel
theorem d_Mod_makeLengths_66 : decode M_Mod_makeLengths.2.1 66 = .ok (.getfield 57, 3) := by decide +kernel
theorem d_Mod_makeLengths_69 : decode M_Mod_makeLengths.2.1 69 = .ok (.iload 4, 2) := by decide +kernel
theorem d_Mod_makeLengths_71 : decode M_Mod_makeLengths.2.1 71 = .ok (.iaload, 1) := by decide +kernel
theorem d_Mod_makeLengths_72 : decode M_Mod_makeLengths.2.1 72 = .ok (.aload_n 0, 1) := by decide +kernel
theorem d_Mod_makeLengths_73 : decode M_Mod_makeLengths.2.1 73 = .ok (.getfield 57, 3) := by decide +kernel
theorem d_Mod_makeLengths_76 : decode M_Mod_makeLengths.2.1 76 = .ok (.iload 5, 2) := by decide +kernel
theorem d_Mod_makeLengths_78 : decode M_Mod_makeLengths.2.1 78 = .ok (.iaload, 1) := by decide +kernel
theorem d_Mod_makeLengths_79 : decode M_Mod_makeLengths.2.1 79 = .ok (.iadd, 1) := by decide +kernel
theorem d_Mod_makeLengths_80 : decode M_Mod_makeLengths.2.1 80 = .ok (.iastore, 1) := by decide +kernel
theorem d_Mod_makeLengths_81 : decode M_Mod_makeLengths.2.1 81 = .ok (.aload_n 0, 1) := by decide +kernel
theorem d_Mod_makeLengths_82 : decode M_Mod_makeLengths.2.1 82 = .ok (.getfield 60, 3) := by decide +kernel
theorem d_Mod_makeLengths_85 : decode M_Mod_makeLengths.2.1 85 = .ok (.iload 4, 2) := by decide +kernel
theorem d_Mod_makeLengths_87 : decode M_Mod_makeLengths.2.1 87 = .ok (.iload_n 3, 1) := by decide +kernel
theorem d_Mod_makeLengths_88 : decode M_Mod_makeLengths.2.1 88 = .ok (.iastore, 1) := by decide +kernel
theorem d_Mod_makeLengths_89 : decode M_Mod_makeLengths.2.1 89 = .ok (.aload_n 0, 1) := by decide +kernel
theorem d_Mod_makeLengths_90 : decode M_Mod_makeLengths.2.1 90 = .ok (.getfield 60, 3) := by decide +kernel
theorem d_Mod_makeLengths_93 : decode M_Mod_makeLengths.2.1 93 = .ok (.iload 5, 2) := by decide +kernel
theorem d_Mod_makeLengths_95 : decode M_Mod_makeLengths.2.1 95 = .ok (.iload_n 3, 1) := by decide +kernel
theorem d_Mod_makeLengths_96 : decode M_Mod_makeLengths.2.1 96 = .ok (.iastore, 1) := by decide +kernel
theorem d_Mod_makeLengths_97 : decode M_Mod_makeLengths.2.1 97 = .ok (.iinc 3 1, 3) := by decide +kernel
theorem d_Mod_makeLengths_100 : decode M_Mod_makeLengths.2.1 100 = .ok (.goto (-66), 3) := by decide +kernel
theorem d_Mod_makeLengths_103 : decode M_Mod_makeLengths.2.1 103 = .ok (.iconst 0, 1) := by decide +kernel
theorem d_Mod_makeLengths_104 : decode M_Mod_makeLengths.2.1 104 = .ok (.istore 4, 2) := by decide +kernel
theorem d_Mod_makeLengths_106 : decode M_Mod_makeLengths.2.1 106 = .ok (.iload 4, 2) := by decide +kernel
theorem d_Mod_makeLengths_108 : decode M_Mod_makeLengths.2.1 108 = .ok (.iload_n 2, 1) := by decide +kernel
theorem d_Mod_makeLengths_109 : decode M_Mod_makeLengths.2.1 109 = .ok (.if_icmp .ge 56, 3) := by decide +kernel
theorem d_Mod_makeLengths_112 : decode M_Mod_makeLengths.2.1 112 = .ok (.iconst 0, 1) := by decide +kernel
theorem d_Mod_makeLengths_113 : decode M_Mod_makeLengths.2.1 113 = .ok (.istore 5, 2) := by decide +kernel
theorem d_Mod_makeLengths_115 : decode M_Mod_makeLengths.2.1 115 = .ok (.aload_n 0, 1) := by decide +kernel
theorem d_Mod_makeLengths_116 : decode M_Mod_makeLengths.2.1 116 = .ok (.getfield 60, 3) := by decide +kernel
theorem d_Mod_makeLengths_119 : decode M_Mod_makeLengths.2.1 119 = .ok (.iload 4, 2) := by decide +kernel
theorem d_Mod_makeLengths_121 : decode M_Mod_makeLengths.2.1 121 = .ok (.iaload, 1) := by decide +kernel
theorem d_Mod_makeLengths_122 : decode M_Mod_makeLengths.2.1 122 = .ok (.istore 6, 2) := by decide +kernel
theorem d_Mod_makeLengths_124 : decode M_Mod_makeLengths.2.1 124 = .ok (.iload 6, 2) := by decide +kernel
theorem d_Mod_makeLengths_126 : decode M_Mod_makeLengths.2.1 126 = .ok (.ifCond .lt 18, 3) := by decide +kernel
theorem d_Mod_makeLengths_129 : decode M_Mod_makeLengths.2.1 129 = .ok (.iinc 5 1, 3) := by decide +kernel
theorem d_Mod_makeLengths_132 : decode M_Mod_makeLengths.2.1 132 = .ok (.aload_n 0, 1) := by decide +kernel
theorem d_Mod_makeLengths_133 : decode M_Mod_makeLengths.2.1 133 = .ok (.getfield 60, 3) := by decide +kernel
theorem d_Mod_makeLengths_136 : decode M_Mod_makeLengths.2.1 136 = .ok (.iload 6, 2) := by decide +kernel
theorem d_Mod_makeLengths_138 : decode M_Mod_makeLengths.2.1 138 = .ok (.iaload, 1) := by decide +kernel
theorem d_Mod_makeLengths_139 : decode M_Mod_makeLengths.2.1 139 = .ok (.istore 6, 2) := by decide +kernel
theorem d_Mod_makeLengths_141 : decode M_Mod_makeLengths.2.1 141 = .ok (.goto (-17), 3) := by decide +kernel
theorem d_Mod_makeLengths_144 : decode M_Mod_makeLengths.2.1 144 = .ok (.aload_n 0, 1) := by decide +kernel
theorem d_Mod_makeLengths_145 : decode M_Mod_makeLengths.2.1 145 = .ok (.getfield 42, 3) := by decide +kernel
theorem d_Mod_makeLengths_148 : decode M_Mod_makeLengths.2.1 148 = .ok (.sipush 260, 3) := by decide +kernel
theorem d_Mod_makeLengths_151 : decode M_Mod_makeLengths.2.1 151 = .ok (.iload_n 1, 1) := by decide +kernel
theorem d_Mod_makeLengths_152 : decode M_Mod_makeLengths.2.1 152 = .ok (.imul, 1) := by decide +kernel
theorem d_Mod_makeLengths_153 : decode M_Mod_makeLengths.2.1 153 = .ok (.iload 4, 2) := by decide +kernel
theorem d_Mod_makeLengths_155 : decode M_Mod_makeLengths.2.1 155 = .ok (.iadd, 1) := by decide +kernel
theorem d_Mod_makeLengths_156 : decode M_Mod_makeLengths.2.1 156 = .ok (.iload 5, 2) := by decide +kernel
theorem d_Mod_makeLengths_158 : decode M_Mod_makeLengths.2.1 158 = .ok (.iastore, 1) := by decide +kernel
theorem d_Mod_makeLengths_159 : decode M_Mod_makeLengths.2.1 159 = .ok (.iinc 4 1, 3) := by decide +kernel
theorem d_Mod_makeLengths_162 : decode M_Mod_makeLengths.2.1 162 = .ok (.goto (-56), 3) := by decide +kernel
theorem d_Mod_makeLengths_165 : decode M_Mod_makeLengths.2.1 165 = .ok (.return_, 1) := by decide +kernel
theorem d_Mod_makeCodes_0 : decode M_Mod_makeCodes.2.1 0 = .ok (.iconst (-1), 1) := by decide +kernel
theorem d_Mod_makeCodes_1 : decode M_Mod_makeCodes.2.1 1 = .ok (.istore_n 2, 1) := by decide +kernel
theorem d_Mod_makeCodes_2 : decode M_Mod_makeCodes.2.1 2 = .ok (.iconst 1, 1) := by decide +kernel
theorem d_Mod_makeCodes_3 : decode M_Mod_makeCodes.2.1 3 = .ok (.istore_n 3, 1) := by decide +kernel
theorem d_Mod_makeCodes_4 : decode M_Mod_makeCodes.2.1 4 = .ok (.iconst 1, 1) := by decide +kernel
theorem d_Mod_makeCodes_5 : decode M_Mod_makeCodes.2.1 5 = .ok (.istore 4, 2) := by decide +kernel
theorem d_Mod_makeCodes_7 : decode M_Mod_makeCodes.2.1 7 = .ok (.iload 4, 2) := by decide +kernel
theorem d_Mod_makeCodes_9 : decode M_Mod_makeCodes.2.1 9 = .ok (.bipush 12, 2) := by decide +kernel
theorem d_Mod_makeCodes_11 : decode M_Mod_makeCodes.2.1 11 = .ok (.if_icmp .gt 85, 3) := by decide +kernel
theorem d_Mod_makeCodes_14 : decode M_Mod_makeCodes.2.1 14 = .ok (.iconst 0, 1) := by decide +kernel
theorem d_Mod_makeCodes_15 : decode M_Mod_makeCodes.2.1 15 = .ok (.istore 5, 2) := by decide +kernel
theorem d_Mod_makeCodes_17 : decode M_Mod_makeCodes.2.1 17 = .ok (.iload 5, 2) := by decide +kernel
theorem d_Mod_makeCodes_19 : decode M_Mod_makeCodes.2.1 19 = .ok (.aload_n 0, 1) := by decide +kernel
theorem d_Mod_makeCodes_20 : decode M_Mod_makeCodes.2.1 20 = .ok (.getfield 108, 3) := by decide +kernel
theorem d_Mod_makeCodes_23 : decode M_Mod_makeCodes.2.1 23 = .ok (.iconst 2, 1) := by decide +kernel
theorem d_Mod_makeCodes_24 : decode M_Mod_makeCodes.2.1 24 = .ok (.iadd, 1) := by decide +kernel
theorem d_Mod_makeCodes_25 : decode M_Mod_makeCodes.2.1 25 = .ok (.if_icmp .ge 65, 3) := by decide +kernel
theorem d_Mod_makeCodes_28 : decode M_Mod_makeCodes.2.1 28 = .ok (.aload_n 0, 1) := by decide +kernel
theorem d_Mod_makeCodes_29 : decode M_Mod_makeCodes.2.1 29 = .ok (.getfield 42, 3) := by decide +kernel
theorem d_Mod_makeCodes_32 : decode M_Mod_makeCodes.2.1 32 = .ok (.sipush 260, 3) := by decide +kernel
theorem d_Mod_makeCodes_35 : decode M_Mod_makeCodes.2.1 35 = .ok (.iload_n 1, 1) := by decide +kernel
theorem d_Mod_makeCodes_36 : decode M_Mod_makeCodes.2.1 36 = .ok (.imul, 1) := by decide +kernel
theorem d_Mod_makeCodes_37 : decode M_Mod_makeCodes.2.1 37 = .ok (.iload 5, 2) := by decide +kernel
theorem d_Mod_makeCodes_39 : decode M_Mod_makeCodes.2.1 39 = .ok (.iadd, 1) := by decide +kernel
theorem d_Mod_makeCodes_40 : decode M_Mod_makeCodes.2.1 40 = .ok (.iaload, 1) := by decide +kernel
theorem d_Mod_makeCodes_41 : decode M_Mod_makeCodes.2.1 41 = .ok (.iload 4, 2) := by decide +kernel
theorem d_Mod_makeCodes_43 : decode M_Mod_makeCodes.2.1 43 = .ok (.if_icmp .ne 41, 3) := by decide +kernel
theorem d_Mod_makeCodes_46 : decode M_Mod_makeCodes.2.1 46 = .ok (.iload_n 2, 1) := by decide +kernel
theorem d_Mod_makeCodes_47 : decode M_Mod_makeCodes.2.1 47 = .ok (.ifCond .ge 7, 3) := by decide +kernel
theorem d_Mod_makeCodes_50 : decode M_Mod_makeCodes.2.1 50 = .ok (.iconst 0, 1) := by decide +kernel
theorem d_Mod_makeCodes_51 : decode M_Mod_makeCodes.2.1 51 = .ok (.goto 15, 3) := by decide +kernel
theorem d_Mod_makeCodes_54 : decode M_Mod_makeCodes.2.1 54 = .ok (.iload_n 2, 1) := by decide +kernel
theorem d_Mod_makeCodes_55 : decode M_Mod_makeCodes.2.1 55 = .ok (.iconst 1, 1) := by decide +kernel
theorem d_Mod_makeCodes_56 : decode M_Mod_makeCodes.2.1 56 = .ok (.iadd, 1) := by decide +kernel
theorem d_Mod_makeCodes_57 : decode M_Mod_makeCodes.2.1 57 = .ok (.iconst 1, 1) := by decide +kernel
theorem d_Mod_makeCodes_58 : decode M_Mod_makeCodes.2.1 58 = .ok (.iload_n 3, 1) := by decide +kernel
theorem d_Mod_makeCodes_59 : decode M_Mod_makeCodes.2.1 59 = .ok (.ishl, 1) := by decide +kernel
theorem d_Mod_makeCodes_60 : decode M_Mod_makeCodes.2.1 60 = .ok (.irem, 1) := by decide +kernel
theorem d_Mod_makeCodes_61 : decode M_Mod_makeCodes.2.1 61 = .ok (.iload 4, 2) := by decide +kernel
theorem d_Mod_makeCodes_63 : decode M_Mod_makeCodes.2.1 63 = .ok (.iload_n 3, 1) := by decide +kernel
theorem d_Mod_makeCodes_64 : decode M_Mod_makeCodes.2.1 64 = .ok (.isub, 1) := by decide +kernel
theorem d_Mod_makeCodes_65 : decode M_Mod_makeCodes.2.1 65 = .ok (.ishl, 1) := by decide +kernel
theorem d_Mod_makeCodes_66 : decode M_Mod_makeCodes.2.1 66 = .ok (.istore_n 2, 1) := by decide +kernel
theorem d_Mod_makeCodes_67 : decode M_Mod_makeCodes.2.1 67 = .ok (.iload 4, 2) := by decide +kernel
theorem d_Mod_makeCodes_69 : decode M_Mod_makeCodes.2.1 69 = .ok (.istore_n 3, 1) := by decide +kernel
theorem d_Mod_makeCodes_70 : decode M_Mod_makeCodes.2.1 70 = .ok (.aload_n 0, 1) := by decide +kernel
theorem d_Mod_makeCodes_71 : decode M_Mod_makeCodes.2.1 71 = .ok (.getfield 45, 3) := by decide +kernel
theorem d_Mod_makeCodes_74 : decode M_Mod_makeCodes.2.1 74 = .ok (.sipush 260, 3) := by decide +kernel
theorem d_Mod_makeCodes_77 : decode M_Mod_makeCodes.2.1 77 = .ok (.iload_n 1, 1) := by decide +kernel
theorem d_Mod_makeCodes_78 : decode M_Mod_makeCodes.2.1 78 = .ok (.imul, 1) := by decide +kernel
theorem d_Mod_makeCodes_79 : decode M_Mod_makeCodes.2.1 79 = .ok (.iload 5, 2) := by decide +kernel
theorem d_Mod_makeCodes_81 : decode M_Mod_makeCodes.2.1 81 = .ok (.iadd, 1) := by decide +kernel
theorem d_Mod_makeCodes_82 : decode M_Mod_makeCodes.2.1 82 = .ok (.iload_n 2, 1) := by decide +kernel
theorem d_Mod_makeCodes_83 : decode M_Mod_makeCodes.2.1 83 = .ok (.iastore, 1) := by decide +kernel
theorem d_Mod_makeCodes_84 : decode M_Mod_makeCodes.2.1 84 = .ok (.iinc 5 1, 3) := by decide +kernel
theorem d_Mod_makeCodes_87 : decode M_Mod_makeCodes.2.1 87 = .ok (.goto (-70), 3) := by decide +kernel
theorem d_Mod_makeCodes_90 : decode M_Mod_makeCodes.2.1 90 = .ok (.iinc 4 1, 3) := by decide +kernel
theorem d_Mod_makeCodes_93 : decode M_Mod_makeCodes.2.1 93 = .ok (.goto (-86), 3) := by decide +kernel
theorem d_Mod_makeCodes_96 : decode M_Mod_makeCodes.2.1 96 = .ok (.return_, 1) := by decide +kernel
theorem d_Mod_costOf_0 : decode M_Mod_costOf.2.1 0 = .ok (.iconst 0, 1) := by decide +kernel
theorem d_Mod_costOf_1 : decode M_Mod_costOf.2.1 1 = .ok (.istore_n 3, 1) := by decide +kernel
theorem d_Mod_costOf_2 : decode M_Mod_costOf.2.1 2 = .ok (.bipush 8, 2) := by decide +kernel
theorem d_Mod_costOf_4 : decode M_Mod_costOf.2.1 4 = .ok (.iload_n 1, 1) := by decide +kernel
theorem d_Mod_costOf_5 : decode M_Mod_costOf.2.1 5 = .ok (.imul, 1) := by decide +kernel
theorem d_Mod_costOf_6 : decode M_Mod_costOf.2.1 6 = .ok (.istore 4, 2) := by decide +kernel
theorem d_Mod_costOf_8 : decode M_Mod_costOf.2.1 8 = .ok (.iload 4, 2) := by decide +kernel
theorem d_Mod_costOf_10 : decode M_Mod_costOf.2.1 10 = .ok (.bipush 8, 2) := by decide +kernel
theorem d_Mod_costOf_12 : decode M_Mod_costOf.2.1 12 = .ok (.iload_n 1, 1) := by decide +kernel
theorem d_Mod_costOf_13 : decode M_Mod_costOf.2.1 13 = .ok (.imul, 1) := by decide +kernel
theorem d_Mod_costOf_14 : decode M_Mod_costOf.2.1 14 = .ok (.bipush 8, 2) := by decide +kernel
theorem d_Mod_costOf_16 : decode M_Mod_costOf.2.1 16 = .ok (.iadd, 1) := by decide +kernel
theorem d_Mod_costOf_17 : decode M_Mod_costOf.2.1 17 = .ok (.if_icmp .ge 39, 3) := by decide +kernel
theorem d_Mod_costOf_20 : decode M_Mod_costOf.2.1 20 = .ok (.iload 4, 2) := by decide +kernel
theorem d_Mod_costOf_22 : decode M_Mod_costOf.2.1 22 = .ok (.aload_n 0, 1) := by decide +kernel
theorem d_Mod_costOf_23 : decode M_Mod_costOf.2.1 23 = .ok (.getfield 111, 3) := by decide +kernel
theorem d_Mod_costOf_26 : decode M_Mod_costOf.2.1 26 = .ok (.if_icmp .ge 30, 3) := by decide +kernel
theorem d_Mod_costOf_29 : decode M_Mod_costOf.2.1 29 = .ok (.iload_n 3, 1) := by decide +kernel
theorem d_Mod_costOf_30 : decode M_Mod_costOf.2.1 30 = .ok (.aload_n 0, 1) := by decide +kernel
theorem d_Mod_costOf_31 : decode M_Mod_costOf.2.1 31 = .ok (.getfield 42, 3) := by decide +kernel
theorem d_Mod_costOf_34 : decode M_Mod_costOf.2.1 34 = .ok (.sipush 260, 3) := by decide +kernel
theorem d_Mod_costOf_37 : decode M_Mod_costOf.2.1 37 = .ok (.iload_n 2, 1) := by decide +kernel
theorem d_Mod_costOf_38 : decode M_Mod_costOf.2.1 38 = .ok (.imul, 1) := by decide +kernel
theorem d_Mod_costOf_39 : decode M_Mod_costOf.2.1 39 = .ok (.aload_n 0, 1) := by decide +kernel
theorem d_Mod_costOf_40 : decode M_Mod_costOf.2.1 40 = .ok (.getfield 32, 3) := by decide +kernel
theorem d_Mod_costOf_43 : decode M_Mod_costOf.2.1 43 = .ok (.iload 4, 2) := by decide +kernel
theorem d_Mod_costOf_45 : decode M_Mod_costOf.2.1 45 = .ok (.iaload, 1) := by decide +kernel
theorem d_Mod_costOf_46 : decode M_Mod_costOf.2.1 46 = .ok (.iadd, 1) := by decide +kernel
theorem d_Mod_costOf_47 : decode M_Mod_costOf.2.1 47 = .ok (.iaload, 1) := by decide +kernel
theorem d_Mod_costOf_48 : decode M_Mod_costOf.2.1 48 = .ok (.iadd, 1) := by decide +kernel
theorem d_Mod_costOf_49 : decode M_Mod_costOf.2.1 49 = .ok (.istore_n 3, 1) := by decide +kernel
theorem d_Mod_costOf_50 : decode M_Mod_costOf.2.1 50 = .ok (.iinc 4 1, 3) := by decide +kernel
theorem d_Mod_costOf_53 : decode M_Mod_costOf.2.1 53 = .ok (.goto (-45), 3) := by decide +kernel
theorem d_Mod_costOf_56 : decode M_Mod_costOf.2.1 56 = .ok (.iload_n 3, 1) := by decide +kernel
theorem d_Mod_costOf_57 : decode M_Mod_costOf.2.1 57 = .ok (.ireturn, 1) := by decide +kernel
theorem d_Mod_pick_0 : decode M_Mod_pick.2.1 0 = .ok (.aload_n 0, 1) := by decide +kernel
theorem d_Mod_pick_1 : decode M_Mod_pick.2.1 1 = .ok (.aload_n 0, 1) := by decide +kernel
theorem d_Mod_pick_2 : decode M_Mod_pick.2.1 2 = .ok (.getfield 111, 3) := by decide +kernel
theorem d_Mod_pick_5 : decode M_Mod_pick.2.1 5 = .ok (.bipush 7, 2) := by decide +kernel
theorem d_Mod_pick_7 : decode M_Mod_pick.2.1 7 = .ok (.iadd, 1) := by decide +kernel
theorem d_Mod_pick_8 : decode M_Mod_pick.2.1 8 = .ok (.bipush 8, 2) := by decide +kernel
theorem d_Mod_pick_10 : decode M_Mod_pick.2.1 10 = .ok (.idiv, 1) := by decide +kernel
theorem d_Mod_pick_11 : decode M_Mod_pick.2.1 11 = .ok (.putfield 131, 3) := by decide +kernel
theorem d_Mod_pick_14 : decode M_Mod_pick.2.1 14 = .ok (.aload_n 0, 1) := by decide +kernel
theorem d_Mod_pick_15 : decode M_Mod_pick.2.1 15 = .ok (.aload_n 0, 1) := by decide +kernel
theorem d_Mod_pick_16 : decode M_Mod_pick.2.1 16 = .ok (.getfield 131, 3) := by decide +kernel
theorem d_Mod_pick_19 : decode M_Mod_pick.2.1 19 = .ok (.iconst 4, 1) := by decide +kernel
theorem d_Mod_pick_20 : decode M_Mod_pick.2.1 20 = .ok (.if_icmp .le 7, 3) := by decide +kernel
theorem d_Mod_pick_23 : decode M_Mod_pick.2.1 23 = .ok (.iconst 3, 1) := by decide +kernel
theorem d_Mod_pick_24 : decode M_Mod_pick.2.1 24 = .ok (.goto 4, 3) := by decide +kernel
theorem d_Mod_pick_27 : decode M_Mod_pick.2.1 27 = .ok (.iconst 2, 1) := by decide +kernel
theorem d_Mod_pick_28 : decode M_Mod_pick.2.1 28 = .ok (.putfield 134, 3) := by decide +kernel
theorem d_Mod_pick_31 : decode M_Mod_pick.2.1 31 = .ok (.iconst 0, 1) := by decide +kernel
theorem d_Mod_pick_32 : decode M_Mod_pick.2.1 32 = .ok (.istore_n 1, 1) := by decide +kernel
theorem d_Mod_pick_33 : decode M_Mod_pick.2.1 33 = .ok (.iload_n 1, 1) := by decide +kernel
theorem d_Mod_pick_34 : decode M_Mod_pick.2.1 34 = .ok (.aload_n 0, 1) := by decide +kernel
end
section
theorem d_Mod_pick_35 : decode M_Mod_pick.2.1 35 = .ok (.getfield 131, 3) := by decide +kernel
theorem d_Mod_pick_38 : decode M_Mod_pick.2.1 38 = .ok (.if_icmp .ge 21, 3) := by decide +kernel
theorem d_Mod_pick_41 : decode M_Mod_pick.2.1 41 = .ok (.aload_n 0, 1) := by decide +kernel
theorem d_Mod_pick_42 : decode M_Mod_pick.2.1 42 = .ok (.getfield 48, 3) := by decide +kernel
theorem d_Mod_pick_45 : decode M_Mod_pick.2.1 45 = .ok (.iload_n 1, 1) := by decide +kernel
theorem d_Mod_pick_46 : decode M_Mod_pick.2.1 46 = .ok (.iload_n 1, 1) := by decide +kernel
theorem d_Mod_pick_47 : decode M_Mod_pick.2.1 47 = .ok (.aload_n 0, 1) := by decide +kernel
theorem d_Mod_pick_48 : decode M_Mod_pick.2.1 48 = .ok (.getfield 134, 3) := by decide +kernel
theorem d_Mod_pick_51 : decode M_Mod_pick.2.1 51 = .ok (.irem, 1) := by decide +kernel
theorem d_Mod_pick_52 : decode M_Mod_pick.2.1 52 = .ok (.iastore, 1) := by decide +kernel
theorem d_Mod_pick_53 : decode M_Mod_pick.2.1 53 = .ok (.iinc 1 1, 3) := by decide +kernel
theorem d_Mod_pick_56 : decode M_Mod_pick.2.1 56 = .ok (.goto (-23), 3) := by decide +kernel
theorem d_Mod_pick_59 : decode M_Mod_pick.2.1 59 = .ok (.iconst 0, 1) := by decide +kernel
theorem d_Mod_pick_60 : decode M_Mod_pick.2.1 60 = .ok (.istore_n 1, 1) := by decide +kernel
theorem d_Mod_pick_61 : decode M_Mod_pick.2.1 61 = .ok (.iload_n 1, 1) := by decide +kernel
theorem d_Mod_pick_62 : decode M_Mod_pick.2.1 62 = .ok (.iconst 3, 1) := by decide +kernel
theorem d_Mod_pick_63 : decode M_Mod_pick.2.1 63 = .ok (.if_icmp .ge 221, 3) := by decide +kernel
theorem d_Mod_pick_66 : decode M_Mod_pick.2.1 66 = .ok (.iconst 0, 1) := by decide +kernel
theorem d_Mod_pick_67 : decode M_Mod_pick.2.1 67 = .ok (.istore_n 2, 1) := by decide +kernel
theorem d_Mod_pick_68 : decode M_Mod_pick.2.1 68 = .ok (.iload_n 2, 1) := by decide +kernel
theorem d_Mod_pick_69 : decode M_Mod_pick.2.1 69 = .ok (.aload_n 0, 1) := by decide +kernel
theorem d_Mod_pick_70 : decode M_Mod_pick.2.1 70 = .ok (.getfield 134, 3) := by decide +kernel
theorem d_Mod_pick_73 : decode M_Mod_pick.2.1 73 = .ok (.if_icmp .ge 130, 3) := by decide +kernel
theorem d_Mod_pick_76 : decode M_Mod_pick.2.1 76 = .ok (.iconst 0, 1) := by decide +kernel
theorem d_Mod_pick_77 : decode M_Mod_pick.2.1 77 = .ok (.istore_n 3, 1) := by decide +kernel
theorem d_Mod_pick_78 : decode M_Mod_pick.2.1 78 = .ok (.iload_n 3, 1) := by decide +kernel
theorem d_Mod_pick_79 : decode M_Mod_pick.2.1 79 = .ok (.aload_n 0, 1) := by decide +kernel
theorem d_Mod_pick_80 : decode M_Mod_pick.2.1 80 = .ok (.getfield 108, 3) := by decide +kernel
theorem d_Mod_pick_83 : decode M_Mod_pick.2.1 83 = .ok (.iconst 2, 1) := by decide +kernel
theorem d_Mod_pick_84 : decode M_Mod_pick.2.1 84 = .ok (.iadd, 1) := by decide +kernel
theorem d_Mod_pick_85 : decode M_Mod_pick.2.1 85 = .ok (.if_icmp .ge 16, 3) := by decide +kernel
theorem d_Mod_pick_88 : decode M_Mod_pick.2.1 88 = .ok (.aload_n 0, 1) := by decide +kernel
theorem d_Mod_pick_89 : decode M_Mod_pick.2.1 89 = .ok (.getfield 57, 3) := by decide +kernel
theorem d_Mod_pick_92 : decode M_Mod_pick.2.1 92 = .ok (.iload_n 3, 1) := by decide +kernel
theorem d_Mod_pick_93 : decode M_Mod_pick.2.1 93 = .ok (.iconst 0, 1) := by decide +kernel
theorem d_Mod_pick_94 : decode M_Mod_pick.2.1 94 = .ok (.iastore, 1) := by decide +kernel
theorem d_Mod_pick_95 : decode M_Mod_pick.2.1 95 = .ok (.iinc 3 1, 3) := by decide +kernel
theorem d_Mod_pick_98 : decode M_Mod_pick.2.1 98 = .ok (.goto (-20), 3) := by decide +kernel
theorem d_Mod_pick_101 : decode M_Mod_pick.2.1 101 = .ok (.iconst 0, 1) := by decide +kernel
theorem d_Mod_pick_102 : decode M_Mod_pick.2.1 102 = .ok (.istore_n 3, 1) := by decide +kernel
theorem d_Mod_pick_103 : decode M_Mod_pick.2.1 103 = .ok (.iload_n 3, 1) := by decide +kernel
theorem d_Mod_pick_104 : decode M_Mod_pick.2.1 104 = .ok (.aload_n 0, 1) := by decide +kernel
theorem d_Mod_pick_105 : decode M_Mod_pick.2.1 105 = .ok (.getfield 111, 3) := by decide +kernel
theorem d_Mod_pick_108 : decode M_Mod_pick.2.1 108 = .ok (.if_icmp .ge 41, 3) := by decide +kernel
theorem d_Mod_pick_111 : decode M_Mod_pick.2.1 111 = .ok (.aload_n 0, 1) := by decide +kernel
theorem d_Mod_pick_112 : decode M_Mod_pick.2.1 112 = .ok (.getfield 57, 3) := by decide +kernel
theorem d_Mod_pick_115 : decode M_Mod_pick.2.1 115 = .ok (.aload_n 0, 1) := by decide +kernel
theorem d_Mod_pick_116 : decode M_Mod_pick.2.1 116 = .ok (.getfield 32, 3) := by decide +kernel
theorem d_Mod_pick_119 : decode M_Mod_pick.2.1 119 = .ok (.iload_n 3, 1) := by decide +kernel
theorem d_Mod_pick_120 : decode M_Mod_pick.2.1 120 = .ok (.iaload, 1) := by decide +kernel
theorem d_Mod_pick_121 : decode M_Mod_pick.2.1 121 = .ok (.dup2, 1) := by decide +kernel
theorem d_Mod_pick_122 : decode M_Mod_pick.2.1 122 = .ok (.iaload, 1) := by decide +kernel
theorem d_Mod_pick_123 : decode M_Mod_pick.2.1 123 = .ok (.aload_n 0, 1) := by decide +kernel
theorem d_Mod_pick_124 : decode M_Mod_pick.2.1 124 = .ok (.getfield 48, 3) := by decide +kernel
theorem d_Mod_pick_127 : decode M_Mod_pick.2.1 127 = .ok (.iload_n 3, 1) := by decide +kernel
theorem d_Mod_pick_128 : decode M_Mod_pick.2.1 128 = .ok (.bipush 8, 2) := by decide +kernel
theorem d_Mod_pick_130 : decode M_Mod_pick.2.1 130 = .ok (.idiv, 1) := by decide +kernel
theorem d_Mod_pick_131 : decode M_Mod_pick.2.1 131 = .ok (.iaload, 1) := by decide +kernel
theorem d_Mod_pick_132 : decode M_Mod_pick.2.1 132 = .ok (.iload_n 2, 1) := by decide +kernel
theorem d_Mod_pick_133 : decode M_Mod_pick.2.1 133 = .ok (.if_icmp .ne 7, 3) := by decide +kernel
theorem d_Mod_pick_136 : decode M_Mod_pick.2.1 136 = .ok (.iconst 1, 1) := by decide +kernel
theorem d_Mod_pick_137 : decode M_Mod_pick.2.1 137 = .ok (.goto 4, 3) := by decide +kernel
theorem d_Mod_pick_140 : decode M_Mod_pick.2.1 140 = .ok (.iconst 0, 1) := by decide +kernel
theorem d_Mod_pick_141 : decode M_Mod_pick.2.1 141 = .ok (.iadd, 1) := by decide +kernel
theorem d_Mod_pick_142 : decode M_Mod_pick.2.1 142 = .ok (.iastore, 1) := by decide +kernel
theorem d_Mod_pick_143 : decode M_Mod_pick.2.1 143 = .ok (.iinc 3 1, 3) := by decide +kernel
theorem d_Mod_pick_146 : decode M_Mod_pick.2.1 146 = .ok (.goto (-43), 3) := by decide +kernel
theorem d_Mod_pick_149 : decode M_Mod_pick.2.1 149 = .ok (.iconst 0, 1) := by decide +kernel
theorem d_Mod_pick_150 : decode M_Mod_pick.2.1 150 = .ok (.istore_n 3, 1) := by decide +kernel
theorem d_Mod_pick_151 : decode M_Mod_pick.2.1 151 = .ok (.iload_n 3, 1) := by decide +kernel
theorem d_Mod_pick_152 : decode M_Mod_pick.2.1 152 = .ok (.aload_n 0, 1) := by decide +kernel
theorem d_Mod_pick_153 : decode M_Mod_pick.2.1 153 = .ok (.getfield 108, 3) := by decide +kernel
theorem d_Mod_pick_156 : decode M_Mod_pick.2.1 156 = .ok (.iconst 2, 1) := by decide +kernel
theorem d_Mod_pick_157 : decode M_Mod_pick.2.1 157 = .ok (.iadd, 1) := by decide +kernel
theorem d_Mod_pick_158 : decode M_Mod_pick.2.1 158 = .ok (.if_icmp .ge 34, 3) := by decide +kernel
theorem d_Mod_pick_161 : decode M_Mod_pick.2.1 161 = .ok (.aload_n 0, 1) := by decide +kernel
theorem d_Mod_pick_162 : decode M_Mod_pick.2.1 162 = .ok (.getfield 57, 3) := by decide +kernel
theorem d_Mod_pick_165 : decode M_Mod_pick.2.1 165 = .ok (.iload_n 3, 1) := by decide +kernel
theorem d_Mod_pick_166 : decode M_Mod_pick.2.1 166 = .ok (.aload_n 0, 1) := by decide +kernel
theorem d_Mod_pick_167 : decode M_Mod_pick.2.1 167 = .ok (.getfield 57, 3) := by decide +kernel
theorem d_Mod_pick_170 : decode M_Mod_pick.2.1 170 = .ok (.iload_n 3, 1) := by decide +kernel
theorem d_Mod_pick_171 : decode M_Mod_pick.2.1 171 = .ok (.iaload, 1) := by decide +kernel
theorem d_Mod_pick_172 : decode M_Mod_pick.2.1 172 = .ok (.ifCond .ne 7, 3) := by decide +kernel
theorem d_Mod_pick_175 : decode M_Mod_pick.2.1 175 = .ok (.iconst 1, 1) := by decide +kernel
theorem d_Mod_pick_176 : decode M_Mod_pick.2.1 176 = .ok (.goto 9, 3) := by decide +kernel
theorem d_Mod_pick_179 : decode M_Mod_pick.2.1 179 = .ok (.aload_n 0, 1) := by decide +kernel
theorem d_Mod_pick_180 : decode M_Mod_pick.2.1 180 = .ok (.getfield 57, 3) := by decide +kernel
theorem d_Mod_pick_183 : decode M_Mod_pick.2.1 183 = .ok (.iload_n 3, 1) := by decide +kernel
theorem d_Mod_pick_184 : decode M_Mod_pick.2.1 184 = .ok (.iaload, 1) := by decide +kernel
theorem d_Mod_pick_185 : decode M_Mod_pick.2.1 185 = .ok (.iastore, 1) := by decide +kernel
theorem d_Mod_pick_186 : decode M_Mod_pick.2.1 186 = .ok (.iinc 3 1, 3) := by decide +kernel
theorem d_Mod_pick_189 : decode M_Mod_pick.2.1 189 = .ok (.goto (-38), 3) := by decide +kernel
theorem d_Mod_pick_192 : decode M_Mod_pick.2.1 192 = .ok (.aload_n 0, 1) := by decide +kernel
theorem d_Mod_pick_193 : decode M_Mod_pick.2.1 193 = .ok (.iload_n 2, 1) := by decide +kernel
theorem d_Mod_pick_194 : decode M_Mod_pick.2.1 194 = .ok (.invokevirtual 137, 3) := by decide +kernel
theorem d_Mod_pick_197 : decode M_Mod_pick.2.1 197 = .ok (.iinc 2 1, 3) := by decide +kernel
theorem d_Mod_pick_200 : decode M_Mod_pick.2.1 200 = .ok (.goto (-132), 3) := by decide +kernel
theorem d_Mod_pick_203 : decode M_Mod_pick.2.1 203 = .ok (.iconst 0, 1) := by decide +kernel
theorem d_Mod_pick_204 : decode M_Mod_pick.2.1 204 = .ok (.istore_n 2, 1) := by decide +kernel
theorem d_Mod_pick_205 : decode M_Mod_pick.2.1 205 = .ok (.iload_n 2, 1) := by decide +kernel
theorem d_Mod_pick_206 : decode M_Mod_pick.2.1 206 = .ok (.aload_n 0, 1) := by decide +kernel
theorem d_Mod_pick_207 : decode M_Mod_pick.2.1 207 = .ok (.getfield 131, 3) := by decide +kernel
theorem d_Mod_pick_210 : decode M_Mod_pick.2.1 210 = .ok (.if_icmp .ge 68, 3) := by decide +kernel
theorem d_Mod_pick_213 : decode M_Mod_pick.2.1 213 = .ok (.aload_n 0, 1) := by decide +kernel
theorem d_Mod_pick_214 : decode M_Mod_pick.2.1 214 = .ok (.getfield 48, 3) := by decide +kernel
theorem d_Mod_pick_217 : decode M_Mod_pick.2.1 217 = .ok (.iload_n 2, 1) := by decide +kernel
theorem d_Mod_pick_218 : decode M_Mod_pick.2.1 218 = .ok (.iconst 0, 1) := by decide +kernel
theorem d_Mod_pick_219 : decode M_Mod_pick.2.1 219 = .ok (.iastore, 1) := by decide +kernel
theorem d_Mod_pick_220 : decode M_Mod_pick.2.1 220 = .ok (.iconst 1, 1) := by decide +kernel
theorem d_Mod_pick_221 : decode M_Mod_pick.2.1 221 = .ok (.istore_n 3, 1) := by decide +kernel
theorem d_Mod_pick_222 : decode M_Mod_pick.2.1 222 = .ok (.iload_n 3, 1) := by decide +kernel
theorem d_Mod_pick_223 : decode M_Mod_pick.2.1 223 = .ok (.aload_n 0, 1) := by decide +kernel
theorem d_Mod_pick_224 : decode M_Mod_pick.2.1 224 = .ok (.getfield 134, 3) := by decide +kernel
theorem d_Mod_pick_227 : decode M_Mod_pick.2.1 227 = .ok (.if_icmp .ge 45, 3) := by decide +kernel
theorem d_Mod_pick_230 : decode M_Mod_pick.2.1 230 = .ok (.aload_n 0, 1) := by decide +kernel
theorem d_Mod_pick_231 : decode M_Mod_pick.2.1 231 = .ok (.getfield 48, 3) := by decide +kernel
theorem d_Mod_pick_234 : decode M_Mod_pick.2.1 234 = .ok (.iload_n 2, 1) := by decide +kernel
theorem d_Mod_pick_235 : decode M_Mod_pick.2.1 235 = .ok (.aload_n 0, 1) := by decide +kernel
theorem d_Mod_pick_236 : decode M_Mod_pick.2.1 236 = .ok (.iload_n 2, 1) := by decide +kernel
theorem d_Mod_pick_237 : decode M_Mod_pick.2.1 237 = .ok (.iload_n 3, 1) := by decide +kernel
theorem d_Mod_pick_238 : decode M_Mod_pick.2.1 238 = .ok (.invokevirtual 140, 3) := by decide +kernel
theorem d_Mod_pick_241 : decode M_Mod_pick.2.1 241 = .ok (.aload_n 0, 1) := by decide +kernel
theorem d_Mod_pick_242 : decode M_Mod_pick.2.1 242 = .ok (.iload_n 2, 1) := by decide +kernel
theorem d_Mod_pick_243 : decode M_Mod_pick.2.1 243 = .ok (.aload_n 0, 1) := by decide +kernel
theorem d_Mod_pick_244 : decode M_Mod_pick.2.1 244 = .ok (.getfield 48, 3) := by decide +kernel
theorem d_Mod_pick_247 : decode M_Mod_pick.2.1 247 = .ok (.iload_n 2, 1) := by decide +kernel
theorem d_Mod_pick_248 : decode M_Mod_pick.2.1 248 = .ok (.iaload, 1) := by decide +kernel
theorem d_Mod_pick_249 : decode M_Mod_pick.2.1 249 = .ok (.invokevirtual 140, 3) := by decide +kernel
theorem d_Mod_pick_252 : decode M_Mod_pick.2.1 252 = .ok (.if_icmp .ge 7, 3) := by decide +kernel
theorem d_Mod_pick_255 : decode M_Mod_pick.2.1 255 = .ok (.iload_n 3, 1) := by decide +kernel
theorem d_Mod_pick_256 : decode M_Mod_pick.2.1 256 = .ok (.goto 9, 3) := by decide +kernel
theorem d_Mod_pick_259 : decode M_Mod_pick.2.1 259 = .ok (.aload_n 0, 1) := by decide +kernel
theorem d_Mod_pick_260 : decode M_Mod_pick.2.1 260 = .ok (.getfield 48, 3) := by decide +kernel
theorem d_Mod_pick_263 : decode M_Mod_pick.2.1 263 = .ok (.iload_n 2, 1) := by decide +kernel
theorem d_Mod_pick_264 : decode M_Mod_pick.2.1 264 = .ok (.iaload, 1) := by decide +kernel
theorem d_Mod_pick_265 : decode M_Mod_pick.2.1 265 = .ok (.iastore, 1) := by decide +kernel
theorem d_Mod_pick_266 : decode M_Mod_pick.2.1 266 = .ok (.iinc 3 1, 3) := by decide +kernel
theorem d_Mod_pick_269 : decode M_Mod_pick.2.1 269 = .ok (.goto (-47), 3) := by decide +kernel
theorem d_Mod_pick_272 : decode M_Mod_pick.2.1 272 = .ok (.iinc 2 1, 3) := by decide +kernel
theorem d_Mod_pick_275 : decode M_Mod_pick.2.1 275 = .ok (.goto (-70), 3) := by decide +kernel
theorem d_Mod_pick_278 : decode M_Mod_pick.2.1 278 = .ok (.iinc 1 1, 3) := by decide +kernel
theorem d_Mod_pick_281 : decode M_Mod_pick.2.1 281 = .ok (.goto (-220), 3) := by decide +kernel
theorem d_Mod_pick_284 : decode M_Mod_pick.2.1 284 = .ok (.iconst 0, 1) := by decide +kernel
theorem d_Mod_pick_285 : decode M_Mod_pick.2.1 285 = .ok (.istore_n 1, 1) := by decide +kernel
theorem d_Mod_pick_286 : decode M_Mod_pick.2.1 286 = .ok (.iload_n 1, 1) := by decide +kernel
theorem d_Mod_pick_287 : decode M_Mod_pick.2.1 287 = .ok (.aload_n 0, 1) := by decide +kernel
theorem d_Mod_pick_288 : decode M_Mod_pick.2.1 288 = .ok (.getfield 134, 3) := by decide +kernel
theorem d_Mod_pick_291 : decode M_Mod_pick.2.1 291 = .ok (.if_icmp .ge 14, 3) := by decide +kernel
theorem d_Mod_pick_294 : decode M_Mod_pick.2.1 294 = .ok (.aload_n 0, 1) := by decide +kernel
theorem d_Mod_pick_295 : decode M_Mod_pick.2.1 295 = .ok (.iload_n 1, 1) := by decide +kernel
theorem d_Mod_pick_296 : decode M_Mod_pick.2.1 296 = .ok (.invokevirtual 143, 3) := by decide +kernel
theorem d_Mod_pick_299 : decode M_Mod_pick.2.1 299 = .ok (.iinc 1 1, 3) := by decide +kernel
theorem d_Mod_pick_302 : decode M_Mod_pick.2.1 302 = .ok (.goto (-16), 3) := by decide +kernel
theorem d_Mod_pick_305 : decode M_Mod_pick.2.1 305 = .ok (.return_, 1) := by decide +kernel
theorem d_Mod_write_0 : decode M_Mod_write.2.1 0 = .ok (.iload_n 2, 1) := by decide +kernel
theorem d_Mod_write_1 : decode M_Mod_write.2.1 1 = .ok (.iconst 1, 1) := by decide +kernel
theorem d_Mod_write_2 : decode M_Mod_write.2.1 2 = .ok (.isub, 1) := by decide +kernel
theorem d_Mod_write_3 : decode M_Mod_write.2.1 3 = .ok (.istore_n 3, 1) := by decide +kernel
theorem d_Mod_write_4 : decode M_Mod_write.2.1 4 = .ok (.iload_n 3, 1) := by decide +kernel
theorem d_Mod_write_5 : decode M_Mod_write.2.1 5 = .ok (.ifCond .lt 76, 3) := by decide +kernel
theorem d_Mod_write_8 : decode M_Mod_write.2.1 8 = .ok (.aload_n 0, 1) := by decide +kernel
theorem d_Mod_write_9 : decode M_Mod_write.2.1 9 = .ok (.getfield 146, 3) := by decide +kernel
theorem d_Mod_write_12 : decode M_Mod_write.2.1 12 = .ok (.ifCond .ne 29, 3) := by decide +kernel
theorem d_Mod_write_15 : decode M_Mod_write.2.1 15 = .ok (.aload_n 0, 1) := by decide +kernel
theorem d_Mod_write_16 : decode M_Mod_write.2.1 16 = .ok (.getfield 16, 3) := by decide +kernel
theorem d_Mod_write_19 : decode M_Mod_write.2.1 19 = .ok (.aload_n 0, 1) := by decide +kernel
theorem d_Mod_write_20 : decode M_Mod_write.2.1 20 = .ok (.getfield 86, 3) := by decide +kernel
theorem d_Mod_write_23 : decode M_Mod_write.2.1 23 = .ok (.iconst 0, 1) := by decide +kernel
theorem d_Mod_write_24 : decode M_Mod_write.2.1 24 = .ok (.iastore, 1) := by decide +kernel
theorem d_Mod_write_25 : decode M_Mod_write.2.1 25 = .ok (.aload_n 0, 1) := by decide +kernel
theorem d_Mod_write_26 : decode M_Mod_write.2.1 26 = .ok (.dup, 1) := by decide +kernel
theorem d_Mod_write_27 : decode M_Mod_write.2.1 27 = .ok (.getfield 86, 3) := by decide +kernel
theorem d_Mod_write_30 : decode M_Mod_write.2.1 30 = .ok (.iconst 1, 1) := by decide +kernel
theorem d_Mod_write_31 : decode M_Mod_write.2.1 31 = .ok (.iadd, 1) := by decide +kernel
theorem d_Mod_write_32 : decode M_Mod_write.2.1 32 = .ok (.putfield 86, 3) := by decide +kernel
theorem d_Mod_write_35 : decode M_Mod_write.2.1 35 = .ok (.aload_n 0, 1) := by decide +kernel
theorem d_Mod_write_36 : decode M_Mod_write.2.1 36 = .ok (.bipush 8, 2) := by decide +kernel
theorem d_Mod_write_38 : decode M_Mod_write.2.1 38 = .ok (.putfield 146, 3) := by decide +kernel
theorem d_Mod_write_41 : decode M_Mod_write.2.1 41 = .ok (.aload_n 0, 1) := by decide +kernel
theorem d_Mod_write_42 : decode M_Mod_write.2.1 42 = .ok (.dup, 1) := by decide +kernel
theorem d_Mod_write_43 : decode M_Mod_write.2.1 43 = .ok (.getfield 146, 3) := by decide +kernel
theorem d_Mod_write_46 : decode M_Mod_write.2.1 46 = .ok (.iconst 1, 1) := by decide +kernel
theorem d_Mod_write_47 : decode M_Mod_write.2.1 47 = .ok (.isub, 1) := by decide +kernel
theorem d_Mod_write_48 : decode M_Mod_write.2.1 48 = .ok (.putfield 146, 3) := by decide +kernel
theorem d_Mod_write_51 : decode M_Mod_write.2.1 51 = .ok (.aload_n 0, 1) := by decide +kernel
theorem d_Mod_write_52 : decode M_Mod_write.2.1 52 = .ok (.getfield 16, 3) := by decide +kernel
theorem d_Mod_write_55 : decode M_Mod_write.2.1 55 = .ok (.aload_n 0, 1) := by decide +kernel
theorem d_Mod_write_56 : decode M_Mod_write.2.1 56 = .ok (.getfield 86, 3) := by decide +kernel
theorem d_Mod_write_59 : decode M_Mod_write.2.1 59 = .ok (.iconst 1, 1) := by decide +kernel
theorem d_Mod_write_60 : decode M_Mod_write.2.1 60 = .ok (.isub, 1) := by decide +kernel
theorem d_Mod_write_61 : decode M_Mod_write.2.1 61 = .ok (.dup2, 1) := by decide +kernel
theorem d_Mod_write_62 : decode M_Mod_write.2.1 62 = .ok (.iaload, 1) := by decide +kernel
theorem d_Mod_write_63 : decode M_Mod_write.2.1 63 = .ok (.iload_n 1, 1) := by decide +kernel
theorem d_Mod_write_64 : decode M_Mod_write.2.1 64 = .ok (.iload_n 3, 1) := by decide +kernel
theorem d_Mod_write_65 : decode M_Mod_write.2.1 65 = .ok (.ishr, 1) := by decide +kernel
theorem d_Mod_write_66 : decode M_Mod_write.2.1 66 = .ok (.iconst 1, 1) := by decide +kernel
theorem d_Mod_write_67 : decode M_Mod_write.2.1 67 = .ok (.iand, 1) := by decide +kernel
theorem d_Mod_write_68 : decode M_Mod_write.2.1 68 = .ok (.aload_n 0, 1) := by decide +kernel
theorem d_Mod_write_69 : decode M_Mod_write.2.1 69 = .ok (.getfield 146, 3) := by decide +kernel
theorem d_Mod_write_72 : decode M_Mod_write.2.1 72 = .ok (.ishl, 1) := by decide +kernel
theorem d_Mod_write_73 : decode M_Mod_write.2.1 73 = .ok (.ior, 1) := by decide +kernel
theorem d_Mod_write_74 : decode M_Mod_write.2.1 74 = .ok (.iastore, 1) := by decide +kernel
theorem d_Mod_write_75 : decode M_Mod_write.2.1 75 = .ok (.iinc 3 (-1), 3) := by decide +kernel
theorem d_Mod_write_78 : decode M_Mod_write.2.1 78 = .ok (.goto (-74), 3) := by decide +kernel
theorem d_Mod_write_81 : decode M_Mod_write.2.1 81 = .ok (.return_, 1) := by decide +kernel
theorem d_Mod_mapOf_0 : decode M_Mod_mapOf.2.1 0 = .ok (.iconst 0, 1) := by decide +kernel
theorem d_Mod_mapOf_1 : decode M_Mod_mapOf.2.1 1 = .ok (.istore_n 3, 1) := by decide +kernel
theorem d_Mod_mapOf_2 : decode M_Mod_mapOf.2.1 2 = .ok (.iconst 0, 1) := by decide +kernel
theorem d_Mod_mapOf_3 : decode M_Mod_mapOf.2.1 3 = .ok (.istore 4, 2) := by decide +kernel
theorem d_Mod_mapOf_5 : decode M_Mod_mapOf.2.1 5 = .ok (.iload 4, 2) := by decide +kernel
theorem d_Mod_mapOf_7 : decode M_Mod_mapOf.2.1 7 = .ok (.bipush 16, 2) := by decide +kernel
theorem d_Mod_mapOf_9 : decode M_Mod_mapOf.2.1 9 = .ok (.if_icmp .ge 76, 3) := by decide +kernel
theorem d_Mod_mapOf_12 : decode M_Mod_mapOf.2.1 12 = .ok (.iconst 0, 1) := by decide +kernel
theorem d_Mod_mapOf_13 : decode M_Mod_mapOf.2.1 13 = .ok (.istore 5, 2) := by decide +kernel
theorem d_Mod_mapOf_15 : decode M_Mod_mapOf.2.1 15 = .ok (.iload_n 1, 1) := by decide +kernel
theorem d_Mod_mapOf_16 : decode M_Mod_mapOf.2.1 16 = .ok (.iload_n 2, 1) := by decide +kernel
theorem d_Mod_mapOf_17 : decode M_Mod_mapOf.2.1 17 = .ok (.iload 4, 2) := by decide +kernel
theorem d_Mod_mapOf_19 : decode M_Mod_mapOf.2.1 19 = .ok (.imul, 1) := by decide +kernel
theorem d_Mod_mapOf_20 : decode M_Mod_mapOf.2.1 20 = .ok (.iadd, 1) := by decide +kernel
theorem d_Mod_mapOf_21 : decode M_Mod_mapOf.2.1 21 = .ok (.istore 6, 2) := by decide +kernel
theorem d_Mod_mapOf_23 : decode M_Mod_mapOf.2.1 23 = .ok (.iload 6, 2) := by decide +kernel
theorem d_Mod_mapOf_25 : decode M_Mod_mapOf.2.1 25 = .ok (.iload_n 1, 1) := by decide +kernel
theorem d_Mod_mapOf_26 : decode M_Mod_mapOf.2.1 26 = .ok (.iload_n 2, 1) := by decide +kernel
theorem d_Mod_mapOf_27 : decode M_Mod_mapOf.2.1 27 = .ok (.iload 4, 2) := by decide +kernel
theorem d_Mod_mapOf_29 : decode M_Mod_mapOf.2.1 29 = .ok (.imul, 1) := by decide +kernel
theorem d_Mod_mapOf_30 : decode M_Mod_mapOf.2.1 30 = .ok (.iadd, 1) := by decide +kernel
theorem d_Mod_mapOf_31 : decode M_Mod_mapOf.2.1 31 = .ok (.iload_n 2, 1) := by decide +kernel
theorem d_Mod_mapOf_32 : decode M_Mod_mapOf.2.1 32 = .ok (.iadd, 1) := by decide +kernel
theorem d_Mod_mapOf_33 : decode M_Mod_mapOf.2.1 33 = .ok (.if_icmp .ge 31, 3) := by decide +kernel
theorem d_Mod_mapOf_36 : decode M_Mod_mapOf.2.1 36 = .ok (.iload 5, 2) := by decide +kernel
theorem d_Mod_mapOf_38 : decode M_Mod_mapOf.2.1 38 = .ok (.ifCond .ne 13, 3) := by decide +kernel
theorem d_Mod_mapOf_41 : decode M_Mod_mapOf.2.1 41 = .ok (.aload_n 0, 1) := by decide +kernel
theorem d_Mod_mapOf_42 : decode M_Mod_mapOf.2.1 42 = .ok (.getfield 35, 3) := by decide +kernel
theorem d_Mod_mapOf_45 : decode M_Mod_mapOf.2.1 45 = .ok (.iload 6, 2) := by decide +kernel
theorem d_Mod_mapOf_47 : decode M_Mod_mapOf.2.1 47 = .ok (.baload, 1) := by decide +kernel
theorem d_Mod_mapOf_48 : decode M_Mod_mapOf.2.1 48 = .ok (.ifCond .eq 7, 3) := by decide +kernel
theorem d_Mod_mapOf_51 : decode M_Mod_mapOf.2.1 51 = .ok (.iconst 1, 1) := by decide +kernel
theorem d_Mod_mapOf_52 : decode M_Mod_mapOf.2.1 52 = .ok (.goto 4, 3) := by decide +kernel
theorem d_Mod_mapOf_55 : decode M_Mod_mapOf.2.1 55 = .ok (.iconst 0, 1) := by decide +kernel
theorem d_Mod_mapOf_56 : decode M_Mod_mapOf.2.1 56 = .ok (.istore 5, 2) := by decide +kernel
theorem d_Mod_mapOf_58 : decode M_Mod_mapOf.2.1 58 = .ok (.iinc 6 1, 3) := by decide +kernel
theorem d_Mod_mapOf_61 : decode M_Mod_mapOf.2.1 61 = .ok (.goto (-38), 3) := by decide +kernel
theorem d_Mod_mapOf_64 : decode M_Mod_mapOf.2.1 64 = .ok (.iconst 2, 1) := by decide +kernel
theorem d_Mod_mapOf_65 : decode M_Mod_mapOf.2.1 65 = .ok (.iload_n 3, 1) := by decide +kernel
theorem d_Mod_mapOf_66 : decode M_Mod_mapOf.2.1 66 = .ok (.imul, 1) := by decide +kernel
theorem d_Mod_mapOf_67 : decode M_Mod_mapOf.2.1 67 = .ok (.iload 5, 2) := by decide +kernel
theorem d_Mod_mapOf_69 : decode M_Mod_mapOf.2.1 69 = .ok (.ifCond .eq 7, 3) := by decide +kernel
theorem d_Mod_mapOf_72 : decode M_Mod_mapOf.2.1 72 = .ok (.iconst 1, 1) := by decide +kernel
theorem d_Mod_mapOf_73 : decode M_Mod_mapOf.2.1 73 = .ok (.goto 4, 3) := by decide +kernel
theorem d_Mod_mapOf_76 : decode M_Mod_mapOf.2.1 76 = .ok (.iconst 0, 1) := by decide +kernel
theorem d_Mod_mapOf_77 : decode M_Mod_mapOf.2.1 77 = .ok (.iadd, 1) := by decide +kernel
theorem d_Mod_mapOf_78 : decode M_Mod_mapOf.2.1 78 = .ok (.istore_n 3, 1) := by decide +kernel
theorem d_Mod_mapOf_79 : decode M_Mod_mapOf.2.1 79 = .ok (.iinc 4 1, 3) := by decide +kernel
theorem d_Mod_mapOf_82 : decode M_Mod_mapOf.2.1 82 = .ok (.goto (-77), 3) := by decide +kernel
theorem d_Mod_mapOf_85 : decode M_Mod_mapOf.2.1 85 = .ok (.iload_n 3, 1) := by decide +kernel
theorem d_Mod_mapOf_86 : decode M_Mod_mapOf.2.1 86 = .ok (.ireturn, 1) := by decide +kernel
theorem d_Mod_writeMaps_0 : decode M_Mod_writeMaps.2.1 0 = .ok (.aload_n 0, 1) := by decide +kernel
theorem d_Mod_writeMaps_1 : decode M_Mod_writeMaps.2.1 1 = .ok (.iconst 0, 1) := by decide +kernel
theorem d_Mod_writeMaps_2 : decode M_Mod_writeMaps.2.1 2 = .ok (.bipush 16, 2) := by decide +kernel
theorem d_Mod_writeMaps_4 : decode M_Mod_writeMaps.2.1 4 = .ok (.invokevirtual 149, 3) := by decide +kernel
theorem d_Mod_writeMaps_7 : decode M_Mod_writeMaps.2.1 7 = .ok (.istore_n 1, 1) := by decide +kernel
theorem d_Mod_writeMaps_8 : decode M_Mod_writeMaps.2.1 8 = .ok (.aload_n 0, 1) := by decide +kernel
theorem d_Mod_writeMaps_9 : decode M_Mod_writeMaps.2.1 9 = .ok (.iload_n 1, 1) := by decide +kernel
theorem d_Mod_writeMaps_10 : decode M_Mod_writeMaps.2.1 10 = .ok (.bipush 16, 2) := by decide +kernel
theorem d_Mod_writeMaps_12 : decode M_Mod_writeMaps.2.1 12 = .ok (.invokevirtual 152, 3) := by decide +kernel
theorem d_Mod_writeMaps_15 : decode M_Mod_writeMaps.2.1 15 = .ok (.iconst 0, 1) := by decide +kernel
theorem d_Mod_writeMaps_16 : decode M_Mod_writeMaps.2.1 16 = .ok (.istore_n 2, 1) := by decide +kernel
theorem d_Mod_writeMaps_17 : decode M_Mod_writeMaps.2.1 17 = .ok (.iload_n 2, 1) := by decide +kernel
theorem d_Mod_writeMaps_18 : decode M_Mod_writeMaps.2.1 18 = .ok (.bipush 16, 2) := by decide +kernel
theorem d_Mod_writeMaps_20 : decode M_Mod_writeMaps.2.1 20 = .ok (.if_icmp .ge 36, 3) := by decide +kernel
theorem d_Mod_writeMaps_23 : decode M_Mod_writeMaps.2.1 23 = .ok (.iload_n 1, 1) := by decide +kernel
theorem d_Mod_writeMaps_24 : decode M_Mod_writeMaps.2.1 24 = .ok (.bipush 15, 2) := by decide +kernel
theorem d_Mod_writeMaps_26 : decode M_Mod_writeMaps.2.1 26 = .ok (.iload_n 2, 1) := by decide +kernel
theorem d_Mod_writeMaps_27 : decode M_Mod_writeMaps.2.1 27 = .ok (.isub, 1) := by decide +kernel
theorem d_Mod_writeMaps_28 : decode M_Mod_writeMaps.2.1 28 = .ok (.ishr, 1) := by decide +kernel
theorem d_Mod_writeMaps_29 : decode M_Mod_writeMaps.2.1 29 = .ok (.iconst 1, 1) := by decide +kernel
theorem d_Mod_writeMaps_30 : decode M_Mod_writeMaps.2.1 30 = .ok (.iand, 1) := by decide +kernel
theorem d_Mod_writeMaps_31 : decode M_Mod_writeMaps.2.1 31 = .ok (.iconst 1, 1) := by decide +kernel
theorem d_Mod_writeMaps_32 : decode M_Mod_writeMaps.2.1 32 = .ok (.if_icmp .ne 18, 3) := by decide +kernel
theorem d_Mod_writeMaps_35 : decode M_Mod_writeMaps.2.1 35 = .ok (.aload_n 0, 1) := by decide +kernel
theorem d_Mod_writeMaps_36 : decode M_Mod_writeMaps.2.1 36 = .ok (.aload_n 0, 1) := by decide +kernel
theorem d_Mod_writeMaps_37 : decode M_Mod_writeMaps.2.1 37 = .ok (.bipush 16, 2) := by decide +kernel
theorem d_Mod_writeMaps_39 : decode M_Mod_writeMaps.2.1 39 = .ok (.iload_n 2, 1) := by decide +kernel
theorem d_Mod_writeMaps_40 : decode M_Mod_writeMaps.2.1 40 = .ok (.imul, 1) := by decide +kernel
theorem d_Mod_writeMaps_41 : decode M_Mod_writeMaps.2.1 41 = .ok (.iconst 1, 1) := by decide +kernel
theorem d_Mod_writeMaps_42 : decode M_Mod_writeMaps.2.1 42 = .ok (.invokevirtual 149, 3) := by decide +kernel
theorem d_Mod_writeMaps_45 : decode M_Mod_writeMaps.2.1 45 = .ok (.bipush 16, 2) := by decide +kernel
theorem d_Mod_writeMaps_47 : decode M_Mod_writeMaps.2.1 47 = .ok (.invokevirtual 152, 3) := by decide +kernel
theorem d_Mod_writeMaps_50 : decode M_Mod_writeMaps.2.1 50 = .ok (.iinc 2 1, 3) := by decide +kernel
theorem d_Mod_writeMaps_53 : decode M_Mod_writeMaps.2.1 53 = .ok (.goto (-36), 3) := by decide +kernel
theorem d_Mod_writeMaps_56 : decode M_Mod_writeMaps.2.1 56 = .ok (.return_, 1) := by decide +kernel
theorem d_Mod_beginOrder_0 : decode M_Mod_beginOrder.2.1 0 = .ok (.iconst 0, 1) := by decide +kernel
theorem d_Mod_beginOrder_1 : decode M_Mod_beginOrder.2.1 1 = .ok (.istore_n 1, 1) := by decide +kernel
theorem d_Mod_beginOrder_2 : decode M_Mod_beginOrder.2.1 2 = .ok (.iload_n 1, 1) := by decide +kernel
theorem d_Mod_beginOrder_3 : decode M_Mod_beginOrder.2.1 3 = .ok (.iconst 4, 1) := by decide +kernel
theorem d_Mod_beginOrder_4 : decode M_Mod_beginOrder.2.1 4 = .ok (.if_icmp .ge 16, 3) := by decide +kernel
theorem d_Mod_beginOrder_7 : decode M_Mod_beginOrder.2.1 7 = .ok (.aload_n 0, 1) := by decide +kernel
theorem d_Mod_beginOrder_8 : decode M_Mod_beginOrder.2.1 8 = .ok (.getfield 51, 3) := by decide +kernel
theorem d_Mod_beginOrder_11 : decode M_Mod_beginOrder.2.1 11 = .ok (.iload_n 1, 1) := by decide +kernel
theorem d_Mod_beginOrder_12 : decode M_Mod_beginOrder.2.1 12 = .ok (.iload_n 1, 1) := by decide +kernel
theorem d_Mod_beginOrder_13 : decode M_Mod_beginOrder.2.1 13 = .ok (.iastore, 1) := by decide +kernel
theorem d_Mod_beginOrder_14 : decode M_Mod_beginOrder.2.1 14 = .ok (.iinc 1 1, 3) := by decide +kernel
theorem d_Mod_beginOrder_17 : decode M_Mod_beginOrder.2.1 17 = .ok (.goto (-15), 3) := by decide +kernel
theorem d_Mod_beginOrder_20 : decode M_Mod_beginOrder.2.1 20 = .ok (.return_, 1) := by decide +kernel
theorem d_Mod_orderFront_0 : decode M_Mod_orderFront.2.1 0 = .ok (.aload_n 0, 1) := by decide +kernel
theorem d_Mod_orderFront_1 : decode M_Mod_orderFront.2.1 1 = .ok (.getfield 51, 3) := by decide +kernel
theorem d_Mod_orderFront_4 : decode M_Mod_orderFront.2.1 4 = .ok (.iload_n 1, 1) := by decide +kernel
theorem d_Mod_orderFront_5 : decode M_Mod_orderFront.2.1 5 = .ok (.iaload, 1) := by decide +kernel
theorem d_Mod_orderFront_6 : decode M_Mod_orderFront.2.1 6 = .ok (.istore_n 2, 1) := by decide +kernel
theorem d_Mod_orderFront_7 : decode M_Mod_orderFront.2.1 7 = .ok (.iload_n 1, 1) := by decide +kernel
theorem d_Mod_orderFront_8 : decode M_Mod_orderFront.2.1 8 = .ok (.istore_n 3, 1) := by decide +kernel
theorem d_Mod_orderFront_9 : decode M_Mod_orderFront.2.1 9 = .ok (.iload_n 3, 1) := by decide +kernel
theorem d_Mod_orderFront_10 : decode M_Mod_orderFront.2.1 10 = .ok (.ifCond .le 23, 3) := by decide +kernel
theorem d_Mod_orderFront_13 : decode M_Mod_orderFront.2.1 13 = .ok (.aload_n 0, 1) := by decide +kernel
theorem d_Mod_orderFront_14 : decode M_Mod_orderFront.2.1 14 = .ok (.getfield 51, 3) := by decide +kernel
theorem d_Mod_orderFront_17 : decode M_Mod_orderFront.2.1 17 = .ok (.iload_n 3, 1) := by decide +kernel
theorem d_Mod_orderFront_18 : decode M_Mod_orderFront.2.1 18 = .ok (.aload_n 0, 1) := by decide +kernel
theorem d_Mod_orderFront_19 : decode M_Mod_orderFront.2.1 19 = .ok (.getfield 51, 3) := by decide +kernel
theorem d_Mod_orderFront_22 : decode M_Mod_orderFront.2.1 22 = .ok (.iload_n 3, 1) := by decide +kernel
theorem d_Mod_orderFront_23 : decode M_Mod_orderFront.2.1 23 = .ok (.iconst 1, 1) := by decide +kernel
theorem d_Mod_orderFront_24 : decode M_Mod_orderFront.2.1 24 = .ok (.isub, 1) := by decide +kernel
theorem d_Mod_orderFront_25 : decode M_Mod_orderFront.2.1 25 = .ok (.iaload, 1) := by decide +kernel
theorem d_Mod_orderFront_26 : decode M_Mod_orderFront.2.1 26 = .ok (.iastore, 1) := by decide +kernel
theorem d_Mod_orderFront_27 : decode M_Mod_orderFront.2.1 27 = .ok (.iinc 3 (-1), 3) := by decide +kernel
theorem d_Mod_orderFront_30 : decode M_Mod_orderFront.2.1 30 = .ok (.goto (-21), 3) := by decide +kernel
theorem d_Mod_orderFront_33 : decode M_Mod_orderFront.2.1 33 = .ok (.aload_n 0, 1) := by decide +kernel
theorem d_Mod_orderFront_34 : decode M_Mod_orderFront.2.1 34 = .ok (.getfield 51, 3) := by decide +kernel
theorem d_Mod_orderFront_37 : decode M_Mod_orderFront.2.1 37 = .ok (.iconst 0, 1) := by decide +kernel
theorem d_Mod_orderFront_38 : decode M_Mod_orderFront.2.1 38 = .ok (.iload_n 2, 1) := by decide +kernel
theorem d_Mod_orderFront_39 : decode M_Mod_orderFront.2.1 39 = .ok (.iastore, 1) := by decide +kernel
theorem d_Mod_orderFront_40 : decode M_Mod_orderFront.2.1 40 = .ok (.iload_n 2, 1) := by decide +kernel
theorem d_Mod_orderFront_41 : decode M_Mod_orderFront.2.1 41 = .ok (.ireturn, 1) := by decide +kernel
theorem d_Mod_writePicks_0 : decode M_Mod_writePicks.2.1 0 = .ok (.aload_n 0, 1) := by decide +kernel
theorem d_Mod_writePicks_1 : decode M_Mod_writePicks.2.1 1 = .ok (.invokevirtual 156, 3) := by decide +kernel
theorem d_Mod_writePicks_4 : decode M_Mod_writePicks.2.1 4 = .ok (.iconst 0, 1) := by decide +kernel
theorem d_Mod_writePicks_5 : decode M_Mod_writePicks.2.1 5 = .ok (.istore_n 1, 1) := by decide +kernel
theorem d_Mod_writePicks_6 : decode M_Mod_writePicks.2.1 6 = .ok (.iload_n 1, 1) := by decide +kernel
theorem d_Mod_writePicks_7 : decode M_Mod_writePicks.2.1 7 = .ok (.aload_n 0, 1) := by decide +kernel
theorem d_Mod_writePicks_8 : decode M_Mod_writePicks.2.1 8 = .ok (.getfield 131, 3) := by decide +kernel
theorem d_Mod_writePicks_11 : decode M_Mod_writePicks.2.1 11 = .ok (.if_icmp .ge 69, 3) := by decide +kernel
theorem d_Mod_writePicks_14 : decode M_Mod_writePicks.2.1 14 = .ok (.iconst 0, 1) := by decide +kernel
theorem d_Mod_writePicks_15 : decode M_Mod_writePicks.2.1 15 = .ok (.istore_n 2, 1) := by decide +kernel
theorem d_Mod_writePicks_16 : decode M_Mod_writePicks.2.1 16 = .ok (.aload_n 0, 1) := by decide +kernel
theorem d_Mod_writePicks_17 : decode M_Mod_writePicks.2.1 17 = .ok (.getfield 51, 3) := by decide +kernel
theorem d_Mod_writePicks_20 : decode M_Mod_writePicks.2.1 20 = .ok (.iload_n 2, 1) := by decide +kernel
theorem d_Mod_writePicks_21 : decode M_Mod_writePicks.2.1 21 = .ok (.iaload, 1) := by decide +kernel
theorem d_Mod_writePicks_22 : decode M_Mod_writePicks.2.1 22 = .ok (.aload_n 0, 1) := by decide +kernel
theorem d_Mod_writePicks_23 : decode M_Mod_writePicks.2.1 23 = .ok (.getfield 48, 3) := by decide +kernel
theorem d_Mod_writePicks_26 : decode M_Mod_writePicks.2.1 26 = .ok (.iload_n 1, 1) := by decide +kernel
theorem d_Mod_writePicks_27 : decode M_Mod_writePicks.2.1 27 = .ok (.iaload, 1) := by decide +kernel
theorem d_Mod_writePicks_28 : decode M_Mod_writePicks.2.1 28 = .ok (.if_icmp .eq 9, 3) := by decide +kernel
theorem d_Mod_writePicks_31 : decode M_Mod_writePicks.2.1 31 = .ok (.iinc 2 1, 3) := by decide +kernel
theorem d_Mod_writePicks_34 : decode M_Mod_writePicks.2.1 34 = .ok (.goto (-18), 3) := by decide +kernel
theorem d_Mod_writePicks_37 : decode M_Mod_writePicks.2.1 37 = .ok (.aload_n 0, 1) := by decide +kernel
theorem d_Mod_writePicks_38 : decode M_Mod_writePicks.2.1 38 = .ok (.iload_n 2, 1) := by decide +kernel
theorem d_Mod_writePicks_39 : decode M_Mod_writePicks.2.1 39 = .ok (.invokevirtual 159, 3) := by decide +kernel
theorem d_Mod_writePicks_42 : decode M_Mod_writePicks.2.1 42 = .ok (.istore_n 3, 1) := by decide +kernel
theorem d_Mod_writePicks_43 : decode M_Mod_writePicks.2.1 43 = .ok (.iconst 0, 1) := by decide +kernel
theorem d_Mod_writePicks_44 : decode M_Mod_writePicks.2.1 44 = .ok (.istore 4, 2) := by decide +kernel
theorem d_Mod_writePicks_46 : decode M_Mod_writePicks.2.1 46 = .ok (.iload 4, 2) := by decide +kernel
theorem d_Mod_writePicks_48 : decode M_Mod_writePicks.2.1 48 = .ok (.iload_n 2, 1) := by decide +kernel
theorem d_Mod_writePicks_49 : decode M_Mod_writePicks.2.1 49 = .ok (.if_icmp .ge 19, 3) := by decide +kernel
theorem d_Mod_writePicks_52 : decode M_Mod_writePicks.2.1 52 = .ok (.iload_n 3, 1) := by decide +kernel
theorem d_Mod_writePicks_53 : decode M_Mod_writePicks.2.1 53 = .ok (.ifCond .lt 15, 3) := by decide +kernel
theorem d_Mod_writePicks_56 : decode M_Mod_writePicks.2.1 56 = .ok (.aload_n 0, 1) := by decide +kernel
theorem d_Mod_writePicks_57 : decode M_Mod_writePicks.2.1 57 = .ok (.iconst 1, 1) := by decide +kernel
theorem d_Mod_writePicks_58 : decode M_Mod_writePicks.2.1 58 = .ok (.iconst 1, 1) := by decide +kernel
theorem d_Mod_writePicks_59 : decode M_Mod_writePicks.2.1 59 = .ok (.invokevirtual 152, 3) := by decide +kernel
theorem d_Mod_writePicks_62 : decode M_Mod_writePicks.2.1 62 = .ok (.iinc 4 1, 3) := by decide +kernel
theorem d_Mod_writePicks_65 : decode M_Mod_writePicks.2.1 65 = .ok (.goto (-19), 3) := by decide +kernel
theorem d_Mod_writePicks_68 : decode M_Mod_writePicks.2.1 68 = .ok (.aload_n 0, 1) := by decide +kernel
theorem d_Mod_writePicks_69 : decode M_Mod_writePicks.2.1 69 = .ok (.iconst 0, 1) := by decide +kernel
theorem d_Mod_writePicks_70 : decode M_Mod_writePicks.2.1 70 = .ok (.iconst 1, 1) := by decide +kernel
theorem d_Mod_writePicks_71 : decode M_Mod_writePicks.2.1 71 = .ok (.invokevirtual 152, 3) := by decide +kernel
theorem d_Mod_writePicks_74 : decode M_Mod_writePicks.2.1 74 = .ok (.iinc 1 1, 3) := by decide +kernel
theorem d_Mod_writePicks_77 : decode M_Mod_writePicks.2.1 77 = .ok (.goto (-71), 3) := by decide +kernel
theorem d_Mod_writePicks_80 : decode M_Mod_writePicks.2.1 80 = .ok (.return_, 1) := by decide +kernel
theorem d_Mod_writeTable_0 : decode M_Mod_writeTable.2.1 0 = .ok (.aload_n 0, 1) := by decide +kernel
theorem d_Mod_writeTable_1 : decode M_Mod_writeTable.2.1 1 = .ok (.getfield 42, 3) := by decide +kernel
theorem d_Mod_writeTable_4 : decode M_Mod_writeTable.2.1 4 = .ok (.sipush 260, 3) := by decide +kernel
theorem d_Mod_writeTable_7 : decode M_Mod_writeTable.2.1 7 = .ok (.iload_n 1, 1) := by decide +kernel
theorem d_Mod_writeTable_8 : decode M_Mod_writeTable.2.1 8 = .ok (.imul, 1) := by decide +kernel
theorem d_Mod_writeTable_9 : decode M_Mod_writeTable.2.1 9 = .ok (.iaload, 1) := by decide +kernel
theorem d_Mod_writeTable_10 : decode M_Mod_writeTable.2.1 10 = .ok (.istore_n 2, 1) := by decide +kernel
theorem d_Mod_writeTable_11 : decode M_Mod_writeTable.2.1 11 = .ok (.aload_n 0, 1) := by decide +kernel
theorem d_Mod_writeTable_12 : decode M_Mod_writeTable.2.1 12 = .ok (.iload_n 2, 1) := by decide +kernel
theorem d_Mod_writeTable_13 : decode M_Mod_writeTable.2.1 13 = .ok (.iconst 5, 1) := by decide +kernel
theorem d_Mod_writeTable_14 : decode M_Mod_writeTable.2.1 14 = .ok (.invokevirtual 152, 3) := by decide +kernel
theorem d_Mod_writeTable_17 : decode M_Mod_writeTable.2.1 17 = .ok (.iconst 0, 1) := by decide +kernel
theorem d_Mod_writeTable_18 : decode M_Mod_writeTable.2.1 18 = .ok (.istore_n 3, 1) := by decide +kernel
theorem d_Mod_writeTable_19 : decode M_Mod_writeTable.2.1 19 = .ok (.iload_n 3, 1) := by decide +kernel
theorem d_Mod_writeTable_20 : decode M_Mod_writeTable.2.1 20 = .ok (.aload_n 0, 1) := by decide +kernel
theorem d_Mod_writeTable_21 : decode M_Mod_writeTable.2.1 21 = .ok (.getfield 108, 3) := by decide +kernel
theorem d_Mod_writeTable_24 : decode M_Mod_writeTable.2.1 24 = .ok (.iconst 2, 1) := by decide +kernel
theorem d_Mod_writeTable_25 : decode M_Mod_writeTable.2.1 25 = .ok (.iadd, 1) := by decide +kernel
theorem d_Mod_writeTable_26 : decode M_Mod_writeTable.2.1 26 = .ok (.if_icmp .ge 71, 3) := by decide +kernel
theorem d_Mod_writeTable_29 : decode M_Mod_writeTable.2.1 29 = .ok (.iload_n 2, 1) := by decide +kernel
theorem d_Mod_writeTable_30 : decode M_Mod_writeTable.2.1 30 = .ok (.aload_n 0, 1) := by decide +kernel
theorem d_Mod_writeTable_31 : decode M_Mod_writeTable.2.1 31 = .ok (.getfield 42, 3) := by decide +kernel
theorem d_Mod_writeTable_34 : decode M_Mod_writeTable.2.1 34 = .ok (.sipush 260, 3) := by decide +kernel
theorem d_Mod_writeTable_37 : decode M_Mod_writeTable.2.1 37 = .ok (.iload_n 1, 1) := by decide +kernel
theorem d_Mod_writeTable_38 : decode M_Mod_writeTable.2.1 38 = .ok (.imul, 1) := by decide +kernel
theorem d_Mod_writeTable_39 : decode M_Mod_writeTable.2.1 39 = .ok (.iload_n 3, 1) := by decide +kernel
theorem d_Mod_writeTable_40 : decode M_Mod_writeTable.2.1 40 = .ok (.iadd, 1) := by decide +kernel
theorem d_Mod_writeTable_41 : decode M_Mod_writeTable.2.1 41 = .ok (.iaload, 1) := by decide +kernel
theorem d_Mod_writeTable_42 : decode M_Mod_writeTable.2.1 42 = .ok (.if_icmp .ge 15, 3) := by decide +kernel
theorem d_Mod_writeTable_45 : decode M_Mod_writeTable.2.1 45 = .ok (.aload_n 0, 1) := by decide +kernel
theorem d_Mod_writeTable_46 : decode M_Mod_writeTable.2.1 46 = .ok (.iconst 2, 1) := by decide +kernel
theorem d_Mod_writeTable_47 : decode M_Mod_writeTable.2.1 47 = .ok (.iconst 2, 1) := by decide +kernel
theorem d_Mod_writeTable_48 : decode M_Mod_writeTable.2.1 48 = .ok (.invokevirtual 152, 3) := by decide +kernel
theorem d_Mod_writeTable_51 : decode M_Mod_writeTable.2.1 51 = .ok (.iinc 2 1, 3) := by decide +kernel
theorem d_Mod_writeTable_54 : decode M_Mod_writeTable.2.1 54 = .ok (.goto (-25), 3) := by decide +kernel
theorem d_Mod_writeTable_57 : decode M_Mod_writeTable.2.1 57 = .ok (.iload_n 2, 1) := by decide +kernel
theorem d_Mod_writeTable_58 : decode M_Mod_writeTable.2.1 58 = .ok (.aload_n 0, 1) := by decide +kernel
theorem d_Mod_writeTable_59 : decode M_Mod_writeTable.2.1 59 = .ok (.getfield 42, 3) := by decide +kernel
theorem d_Mod_writeTable_62 : decode M_Mod_writeTable.2.1 62 = .ok (.sipush 260, 3) := by decide +kernel
theorem d_Mod_writeTable_65 : decode M_Mod_writeTable.2.1 65 = .ok (.iload_n 1, 1) := by decide +kernel
theorem d_Mod_writeTable_66 : decode M_Mod_writeTable.2.1 66 = .ok (.imul, 1) := by decide +kernel
theorem d_Mod_writeTable_67 : decode M_Mod_writeTable.2.1 67 = .ok (.iload_n 3, 1) := by decide +kernel
theorem d_Mod_writeTable_68 : decode M_Mod_writeTable.2.1 68 = .ok (.iadd, 1) := by decide +kernel
theorem d_Mod_writeTable_69 : decode M_Mod_writeTable.2.1 69 = .ok (.iaload, 1) := by decide +kernel
theorem d_Mod_writeTable_70 : decode M_Mod_writeTable.2.1 70 = .ok (.if_icmp .le 15, 3) := by decide +kernel
theorem d_Mod_writeTable_73 : decode M_Mod_writeTable.2.1 73 = .ok (.aload_n 0, 1) := by decide +kernel
theorem d_Mod_writeTable_74 : decode M_Mod_writeTable.2.1 74 = .ok (.iconst 3, 1) := by decide +kernel
theorem d_Mod_writeTable_75 : decode M_Mod_writeTable.2.1 75 = .ok (.iconst 2, 1) := by decide +kernel
theorem d_Mod_writeTable_76 : decode M_Mod_writeTable.2.1 76 = .ok (.invokevirtual 152, 3) := by decide +kernel
theorem d_Mod_writeTable_79 : decode M_Mod_writeTable.2.1 79 = .ok (.iinc 2 (-1), 3) := by decide +kernel
theorem d_Mod_writeTable_82 : decode M_Mod_writeTable.2.1 82 = .ok (.goto (-25), 3) := by decide +kernel
theorem d_Mod_writeTable_85 : decode M_Mod_writeTable.2.1 85 = .ok (.aload_n 0, 1) := by decide +kernel
theorem d_Mod_writeTable_86 : decode M_Mod_writeTable.2.1 86 = .ok (.iconst 0, 1) := by decide +kernel
theorem d_Mod_writeTable_87 : decode M_Mod_writeTable.2.1 87 = .ok (.iconst 1, 1) := by decide +kernel
theorem d_Mod_writeTable_88 : decode M_Mod_writeTable.2.1 88 = .ok (.invokevirtual 152, 3) := by decide +kernel
theorem d_Mod_writeTable_91 : decode M_Mod_writeTable.2.1 91 = .ok (.iinc 3 1, 3) := by decide +kernel
theorem d_Mod_writeTable_94 : decode M_Mod_writeTable.2.1 94 = .ok (.goto (-75), 3) := by decide +kernel
theorem d_Mod_writeTable_97 : decode M_Mod_writeTable.2.1 97 = .ok (.return_, 1) := by decide +kernel
theorem d_Mod_writeBlock_0 : decode M_Mod_writeBlock.2.1 0 = .ok (.aload_n 0, 1) := by decide +kernel
theorem d_Mod_writeBlock_1 : decode M_Mod_writeBlock.2.1 1 = .ok (.ldc 162, 2) := by decide +kernel
theorem d_Mod_writeBlock_3 : decode M_Mod_writeBlock.2.1 3 = .ok (.bipush 24, 2) := by decide +kernel
theorem d_Mod_writeBlock_5 : decode M_Mod_writeBlock.2.1 5 = .ok (.invokevirtual 152, 3) := by decide +kernel
theorem d_Mod_writeBlock_8 : decode M_Mod_writeBlock.2.1 8 = .ok (.aload_n 0, 1) := by decide +kernel
theorem d_Mod_writeBlock_9 : decode M_Mod_writeBlock.2.1 9 = .ok (.aload_n 0, 1) := by decide +kernel
theorem d_Mod_writeBlock_10 : decode M_Mod_writeBlock.2.1 10 = .ok (.getfield 163, 3) := by decide +kernel
theorem d_Mod_writeBlock_13 : decode M_Mod_writeBlock.2.1 13 = .ok (.bipush 16, 2) := by decide +kernel
theorem d_Mod_writeBlock_15 : decode M_Mod_writeBlock.2.1 15 = .ok (.invokevirtual 152, 3) := by decide +kernel
theorem d_Mod_writeBlock_18 : decode M_Mod_writeBlock.2.1 18 = .ok (.aload_n 0, 1) := by decide +kernel
theorem d_Mod_writeBlock_19 : decode M_Mod_writeBlock.2.1 19 = .ok (.aload_n 0, 1) := by decide +kernel
theorem d_Mod_writeBlock_20 : decode M_Mod_writeBlock.2.1 20 = .ok (.getfield 105, 3) := by decide +kernel
theorem d_Mod_writeBlock_23 : decode M_Mod_writeBlock.2.1 23 = .ok (.bipush 6, 2) := by decide +kernel
theorem d_Mod_writeBlock_25 : decode M_Mod_writeBlock.2.1 25 = .ok (.invokevirtual 152, 3) := by decide +kernel
theorem d_Mod_writeBlock_28 : decode M_Mod_writeBlock.2.1 28 = .ok (.aload_n 0, 1) := by decide +kernel
theorem d_Mod_writeBlock_29 : decode M_Mod_writeBlock.2.1 29 = .ok (.invokevirtual 166, 3) := by decide +kernel
theorem d_Mod_writeBlock_32 : decode M_Mod_writeBlock.2.1 32 = .ok (.aload_n 0, 1) := by decide +kernel
theorem d_Mod_writeBlock_33 : decode M_Mod_writeBlock.2.1 33 = .ok (.aload_n 0, 1) := by decide +kernel
theorem d_Mod_writeBlock_34 : decode M_Mod_writeBlock.2.1 34 = .ok (.getfield 134, 3) := by decide +kernel
theorem d_Mod_writeBlock_37 : decode M_Mod_writeBlock.2.1 37 = .ok (.iconst 3, 1) := by decide +kernel
theorem d_Mod_writeBlock_38 : decode M_Mod_writeBlock.2.1 38 = .ok (.invokevirtual 152, 3) := by decide +kernel
theorem d_Mod_writeBlock_41 : decode M_Mod_writeBlock.2.1 41 = .ok (.aload_n 0, 1) := by decide +kernel
theorem d_Mod_writeBlock_42 : decode M_Mod_writeBlock.2.1 42 = .ok (.aload_n 0, 1) := by decide +kernel
theorem d_Mod_writeBlock_43 : decode M_Mod_writeBlock.2.1 43 = .ok (.getfield 131, 3) := by decide +kernel
theorem d_Mod_writeBlock_46 : decode M_Mod_writeBlock.2.1 46 = .ok (.bipush 6, 2) := by decide +kernel
theorem d_Mod_writeBlock_48 : decode M_Mod_writeBlock.2.1 48 = .ok (.invokevirtual 152, 3) := by decide +kernel
theorem d_Mod_writeBlock_51 : decode M_Mod_writeBlock.2.1 51 = .ok (.aload_n 0, 1) := by decide +kernel
theorem d_Mod_writeBlock_52 : decode M_Mod_writeBlock.2.1 52 = .ok (.invokevirtual 169, 3) := by decide +kernel
theorem d_Mod_writeBlock_55 : decode M_Mod_writeBlock.2.1 55 = .ok (.iconst 0, 1) := by decide +kernel
theorem d_Mod_writeBlock_56 : decode M_Mod_writeBlock.2.1 56 = .ok (.istore_n 1, 1) := by decide +kernel
theorem d_Mod_writeBlock_57 : decode M_Mod_writeBlock.2.1 57 = .ok (.iload_n 1, 1) := by decide +kernel
theorem d_Mod_writeBlock_58 : decode M_Mod_writeBlock.2.1 58 = .ok (.aload_n 0, 1) := by decide +kernel
theorem d_Mod_writeBlock_59 : decode M_Mod_writeBlock.2.1 59 = .ok (.getfield 134, 3) := by decide +kernel
theorem d_Mod_writeBlock_62 : decode M_Mod_writeBlock.2.1 62 = .ok (.if_icmp .ge 14, 3) := by decide +kernel
theorem d_Mod_writeBlock_65 : decode M_Mod_writeBlock.2.1 65 = .ok (.aload_n 0, 1) := by decide +kernel
theorem d_Mod_writeBlock_66 : decode M_Mod_writeBlock.2.1 66 = .ok (.iload_n 1, 1) := by decide +kernel
theorem d_Mod_writeBlock_67 : decode M_Mod_writeBlock.2.1 67 = .ok (.invokevirtual 172, 3) := by decide +kernel
theorem d_Mod_writeBlock_70 : decode M_Mod_writeBlock.2.1 70 = .ok (.iinc 1 1, 3) := by decide +kernel
theorem d_Mod_writeBlock_73 : decode M_Mod_writeBlock.2.1 73 = .ok (.goto (-16), 3) := by decide +kernel
theorem d_Mod_writeBlock_76 : decode M_Mod_writeBlock.2.1 76 = .ok (.iconst 0, 1) := by decide +kernel
theorem d_Mod_writeBlock_77 : decode M_Mod_writeBlock.2.1 77 = .ok (.istore_n 1, 1) := by decide +kernel
theorem d_Mod_writeBlock_78 : decode M_Mod_writeBlock.2.1 78 = .ok (.iload_n 1, 1) := by decide +kernel
theorem d_Mod_writeBlock_79 : decode M_Mod_writeBlock.2.1 79 = .ok (.aload_n 0, 1) := by decide +kernel
theorem d_Mod_writeBlock_80 : decode M_Mod_writeBlock.2.1 80 = .ok (.getfield 111, 3) := by decide +kernel
theorem d_Mod_writeBlock_83 : decode M_Mod_writeBlock.2.1 83 = .ok (.if_icmp .ge 46, 3) := by decide +kernel
theorem d_Mod_writeBlock_86 : decode M_Mod_writeBlock.2.1 86 = .ok (.sipush 260, 3) := by decide +kernel
theorem d_Mod_writeBlock_89 : decode M_Mod_writeBlock.2.1 89 = .ok (.aload_n 0, 1) := by decide +kernel
theorem d_Mod_writeBlock_90 : decode M_Mod_writeBlock.2.1 90 = .ok (.getfield 48, 3) := by decide +kernel
theorem d_Mod_writeBlock_93 : decode M_Mod_writeBlock.2.1 93 = .ok (.iload_n 1, 1) := by decide +kernel
theorem d_Mod_writeBlock_94 : decode M_Mod_writeBlock.2.1 94 = .ok (.bipush 8, 2) := by decide +kernel
theorem d_Mod_writeBlock_96 : decode M_Mod_writeBlock.2.1 96 = .ok (.idiv, 1) := by decide +kernel
theorem d_Mod_writeBlock_97 : decode M_Mod_writeBlock.2.1 97 = .ok (.iaload, 1) := by decide +kernel
theorem d_Mod_writeBlock_98 : decode M_Mod_writeBlock.2.1 98 = .ok (.imul, 1) := by decide +kernel
theorem d_Mod_writeBlock_99 : decode M_Mod_writeBlock.2.1 99 = .ok (.aload_n 0, 1) := by decide +kernel
theorem d_Mod_writeBlock_100 : decode M_Mod_writeBlock.2.1 100 = .ok (.getfield 32, 3) := by decide +kernel
theorem d_Mod_writeBlock_103 : decode M_Mod_writeBlock.2.1 103 = .ok (.iload_n 1, 1) := by decide +kernel
theorem d_Mod_writeBlock_104 : decode M_Mod_writeBlock.2.1 104 = .ok (.iaload, 1) := by decide +kernel
theorem d_Mod_writeBlock_105 : decode M_Mod_writeBlock.2.1 105 = .ok (.iadd, 1) := by decide +kernel
theorem d_Mod_writeBlock_106 : decode M_Mod_writeBlock.2.1 106 = .ok (.istore_n 2, 1) := by decide +kernel
theorem d_Mod_writeBlock_107 : decode M_Mod_writeBlock.2.1 107 = .ok (.aload_n 0, 1) := by decide +kernel
theorem d_Mod_writeBlock_108 : decode M_Mod_writeBlock.2.1 108 = .ok (.aload_n 0, 1) := by decide +kernel
theorem d_Mod_writeBlock_109 : decode M_Mod_writeBlock.2.1 109 = .ok (.getfield 45, 3) := by decide +kernel
theorem d_Mod_writeBlock_112 : decode M_Mod_writeBlock.2.1 112 = .ok (.iload_n 2, 1) := by decide +kernel
theorem d_Mod_writeBlock_113 : decode M_Mod_writeBlock.2.1 113 = .ok (.iaload, 1) := by decide +kernel
theorem d_Mod_writeBlock_114 : decode M_Mod_writeBlock.2.1 114 = .ok (.aload_n 0, 1) := by decide +kernel
theorem d_Mod_writeBlock_115 : decode M_Mod_writeBlock.2.1 115 = .ok (.getfield 42, 3) := by decide +kernel
theorem d_Mod_writeBlock_118 : decode M_Mod_writeBlock.2.1 118 = .ok (.iload_n 2, 1) := by decide +kernel
theorem d_Mod_writeBlock_119 : decode M_Mod_writeBlock.2.1 119 = .ok (.iaload, 1) := by decide +kernel
theorem d_Mod_writeBlock_120 : decode M_Mod_writeBlock.2.1 120 = .ok (.invokevirtual 152, 3) := by decide +kernel
theorem d_Mod_writeBlock_123 : decode M_Mod_writeBlock.2.1 123 = .ok (.iinc 1 1, 3) := by decide +kernel
theorem d_Mod_writeBlock_126 : decode M_Mod_writeBlock.2.1 126 = .ok (.goto (-48), 3) := by decide +kernel
theorem d_Mod_writeBlock_129 : decode M_Mod_writeBlock.2.1 129 = .ok (.return_, 1) := by decide +kernel
theorem d_Mod_packBlock_0 : decode M_Mod_packBlock.2.1 0 = .ok (.iconst 0, 1) := by decide +kernel
theorem d_Mod_packBlock_1 : decode M_Mod_packBlock.2.1 1 = .ok (.istore_n 3, 1) := by decide +kernel
theorem d_Mod_packBlock_2 : decode M_Mod_packBlock.2.1 2 = .ok (.iload_n 1, 1) := by decide +kernel
theorem d_Mod_packBlock_3 : decode M_Mod_packBlock.2.1 3 = .ok (.iload_n 3, 1) := by decide +kernel
theorem d_Mod_packBlock_4 : decode M_Mod_packBlock.2.1 4 = .ok (.iadd, 1) := by decide +kernel
theorem d_Mod_packBlock_5 : decode M_Mod_packBlock.2.1 5 = .ok (.aload_n 0, 1) := by decide +kernel
theorem d_Mod_packBlock_6 : decode M_Mod_packBlock.2.1 6 = .ok (.getfield 78, 3) := by decide +kernel
theorem d_Mod_packBlock_9 : decode M_Mod_packBlock.2.1 9 = .ok (.if_icmp .ge 21, 3) := by decide +kernel
theorem d_Mod_packBlock_12 : decode M_Mod_packBlock.2.1 12 = .ok (.aload_n 0, 1) := by decide +kernel
theorem d_Mod_packBlock_13 : decode M_Mod_packBlock.2.1 13 = .ok (.iload_n 1, 1) := by decide +kernel
theorem d_Mod_packBlock_14 : decode M_Mod_packBlock.2.1 14 = .ok (.iload_n 3, 1) := by decide +kernel
theorem d_Mod_packBlock_15 : decode M_Mod_packBlock.2.1 15 = .ok (.iconst 1, 1) := by decide +kernel
theorem d_Mod_packBlock_16 : decode M_Mod_packBlock.2.1 16 = .ok (.iadd, 1) := by decide +kernel
theorem d_Mod_packBlock_17 : decode M_Mod_packBlock.2.1 17 = .ok (.invokevirtual 175, 3) := by decide +kernel
theorem d_Mod_packBlock_20 : decode M_Mod_packBlock.2.1 20 = .ok (.iload_n 2, 1) := by decide +kernel
theorem d_Mod_packBlock_21 : decode M_Mod_packBlock.2.1 21 = .ok (.if_icmp .gt 9, 3) := by decide +kernel
theorem d_Mod_packBlock_24 : decode M_Mod_packBlock.2.1 24 = .ok (.iinc 3 1, 3) := by decide +kernel
theorem d_Mod_packBlock_27 : decode M_Mod_packBlock.2.1 27 = .ok (.goto (-25), 3) := by decide +kernel
theorem d_Mod_packBlock_30 : decode M_Mod_packBlock.2.1 30 = .ok (.aload_n 0, 1) := by decide +kernel
theorem d_Mod_packBlock_31 : decode M_Mod_packBlock.2.1 31 = .ok (.aload_n 0, 1) := by decide +kernel
theorem d_Mod_packBlock_32 : decode M_Mod_packBlock.2.1 32 = .ok (.iload_n 1, 1) := by decide +kernel
theorem d_Mod_packBlock_33 : decode M_Mod_packBlock.2.1 33 = .ok (.iload_n 3, 1) := by decide +kernel
theorem d_Mod_packBlock_34 : decode M_Mod_packBlock.2.1 34 = .ok (.invokevirtual 175, 3) := by decide +kernel
theorem d_Mod_packBlock_37 : decode M_Mod_packBlock.2.1 37 = .ok (.putfield 98, 3) := by decide +kernel
theorem d_Mod_packBlock_40 : decode M_Mod_packBlock.2.1 40 = .ok (.aload_n 0, 1) := by decide +kernel
theorem d_Mod_packBlock_41 : decode M_Mod_packBlock.2.1 41 = .ok (.iload_n 3, 1) := by decide +kernel
theorem d_Mod_packBlock_42 : decode M_Mod_packBlock.2.1 42 = .ok (.putfield 91, 3) := by decide +kernel
theorem d_Mod_packBlock_45 : decode M_Mod_packBlock.2.1 45 = .ok (.iconst 0, 1) := by decide +kernel
theorem d_Mod_packBlock_46 : decode M_Mod_packBlock.2.1 46 = .ok (.istore 4, 2) := by decide +kernel
theorem d_Mod_packBlock_48 : decode M_Mod_packBlock.2.1 48 = .ok (.iload 4, 2) := by decide +kernel
theorem d_Mod_packBlock_50 : decode M_Mod_packBlock.2.1 50 = .ok (.iload_n 3, 1) := by decide +kernel
theorem d_Mod_packBlock_51 : decode M_Mod_packBlock.2.1 51 = .ok (.if_icmp .ge 25, 3) := by decide +kernel
theorem d_Mod_packBlock_54 : decode M_Mod_packBlock.2.1 54 = .ok (.aload_n 0, 1) := by decide +kernel
theorem d_Mod_packBlock_55 : decode M_Mod_packBlock.2.1 55 = .ok (.getfield 23, 3) := by decide +kernel
theorem d_Mod_packBlock_58 : decode M_Mod_packBlock.2.1 58 = .ok (.iload 4, 2) := by decide +kernel
theorem d_Mod_packBlock_60 : decode M_Mod_packBlock.2.1 60 = .ok (.aload_n 0, 1) := by decide +kernel
theorem d_Mod_packBlock_61 : decode M_Mod_packBlock.2.1 61 = .ok (.getfield 7, 3) := by decide +kernel
theorem d_Mod_packBlock_64 : decode M_Mod_packBlock.2.1 64 = .ok (.iload_n 1, 1) := by decide +kernel
theorem d_Mod_packBlock_65 : decode M_Mod_packBlock.2.1 65 = .ok (.iload 4, 2) := by decide +kernel
theorem d_Mod_packBlock_67 : decode M_Mod_packBlock.2.1 67 = .ok (.iadd, 1) := by decide +kernel
theorem d_Mod_packBlock_68 : decode M_Mod_packBlock.2.1 68 = .ok (.iaload, 1) := by decide +kernel
theorem d_Mod_packBlock_69 : decode M_Mod_packBlock.2.1 69 = .ok (.iastore, 1) := by decide +kernel
theorem d_Mod_packBlock_70 : decode M_Mod_packBlock.2.1 70 = .ok (.iinc 4 1, 3) := by decide +kernel
theorem d_Mod_packBlock_73 : decode M_Mod_packBlock.2.1 73 = .ok (.goto (-25), 3) := by decide +kernel
theorem d_Mod_packBlock_76 : decode M_Mod_packBlock.2.1 76 = .ok (.aload_n 0, 1) := by decide +kernel
theorem d_Mod_packBlock_77 : decode M_Mod_packBlock.2.1 77 = .ok (.aload_n 0, 1) := by decide +kernel
theorem d_Mod_packBlock_78 : decode M_Mod_packBlock.2.1 78 = .ok (.invokevirtual 178, 3) := by decide +kernel
theorem d_Mod_packBlock_81 : decode M_Mod_packBlock.2.1 81 = .ok (.putfield 163, 3) := by decide +kernel
theorem d_Mod_packBlock_84 : decode M_Mod_packBlock.2.1 84 = .ok (.aload_n 0, 1) := by decide +kernel
theorem d_Mod_packBlock_85 : decode M_Mod_packBlock.2.1 85 = .ok (.invokevirtual 182, 3) := by decide +kernel
theorem d_Mod_packBlock_88 : decode M_Mod_packBlock.2.1 88 = .ok (.aload_n 0, 1) := by decide +kernel
theorem d_Mod_packBlock_89 : decode M_Mod_packBlock.2.1 89 = .ok (.invokevirtual 185, 3) := by decide +kernel
theorem d_Mod_packBlock_92 : decode M_Mod_packBlock.2.1 92 = .ok (.aload_n 0, 1) := by decide +kernel
theorem d_Mod_packBlock_93 : decode M_Mod_packBlock.2.1 93 = .ok (.invokevirtual 188, 3) := by decide +kernel
theorem d_Mod_packBlock_96 : decode M_Mod_packBlock.2.1 96 = .ok (.aload_n 0, 1) := by decide +kernel
theorem d_Mod_packBlock_97 : decode M_Mod_packBlock.2.1 97 = .ok (.invokevirtual 191, 3) := by decide +kernel
theorem d_Mod_packBlock_100 : decode M_Mod_packBlock.2.1 100 = .ok (.iload_n 3, 1) := by decide +kernel
theorem d_Mod_packBlock_101 : decode M_Mod_packBlock.2.1 101 = .ok (.ireturn, 1) := by decide +kernel
theorem d_Mod_remember_0 : decode M_Mod_remember.2.1 0 = .ok (.aload_n 0, 1) := by decide +kernel
theorem d_Mod_remember_1 : decode M_Mod_remember.2.1 1 = .ok (.aload_n 0, 1) := by decide +kernel
theorem d_Mod_remember_2 : decode M_Mod_remember.2.1 2 = .ok (.getfield 105, 3) := by decide +kernel
theorem d_Mod_remember_5 : decode M_Mod_remember.2.1 5 = .ok (.putfield 194, 3) := by decide +kernel
theorem d_Mod_remember_8 : decode M_Mod_remember.2.1 8 = .ok (.aload_n 0, 1) := by decide +kernel
theorem d_Mod_remember_9 : decode M_Mod_remember.2.1 9 = .ok (.aload_n 0, 1) := by decide +kernel
theorem d_Mod_remember_10 : decode M_Mod_remember.2.1 10 = .ok (.getfield 98, 3) := by decide +kernel
theorem d_Mod_remember_13 : decode M_Mod_remember.2.1 13 = .ok (.putfield 197, 3) := by decide +kernel
theorem d_Mod_remember_16 : decode M_Mod_remember.2.1 16 = .ok (.aload_n 0, 1) := by decide +kernel
theorem d_Mod_remember_17 : decode M_Mod_remember.2.1 17 = .ok (.aload_n 0, 1) := by decide +kernel
theorem d_Mod_remember_18 : decode M_Mod_remember.2.1 18 = .ok (.getfield 111, 3) := by decide +kernel
theorem d_Mod_remember_21 : decode M_Mod_remember.2.1 21 = .ok (.putfield 200, 3) := by decide +kernel
theorem d_Mod_remember_24 : decode M_Mod_remember.2.1 24 = .ok (.aload_n 0, 1) := by decide +kernel
theorem d_Mod_remember_25 : decode M_Mod_remember.2.1 25 = .ok (.aload_n 0, 1) := by decide +kernel
theorem d_Mod_remember_26 : decode M_Mod_remember.2.1 26 = .ok (.getfield 134, 3) := by decide +kernel
theorem d_Mod_remember_29 : decode M_Mod_remember.2.1 29 = .ok (.putfield 203, 3) := by decide +kernel
theorem d_Mod_remember_32 : decode M_Mod_remember.2.1 32 = .ok (.aload_n 0, 1) := by decide +kernel
theorem d_Mod_remember_33 : decode M_Mod_remember.2.1 33 = .ok (.aload_n 0, 1) := by decide +kernel
theorem d_Mod_remember_34 : decode M_Mod_remember.2.1 34 = .ok (.getfield 131, 3) := by decide +kernel
theorem d_Mod_remember_37 : decode M_Mod_remember.2.1 37 = .ok (.putfield 206, 3) := by decide +kernel
theorem d_Mod_remember_40 : decode M_Mod_remember.2.1 40 = .ok (.aload_n 0, 1) := by decide +kernel
theorem d_Mod_remember_41 : decode M_Mod_remember.2.1 41 = .ok (.aload_n 0, 1) := by decide +kernel
theorem d_Mod_remember_42 : decode M_Mod_remember.2.1 42 = .ok (.getfield 108, 3) := by decide +kernel
theorem d_Mod_remember_45 : decode M_Mod_remember.2.1 45 = .ok (.putfield 209, 3) := by decide +kernel
theorem d_Mod_remember_48 : decode M_Mod_remember.2.1 48 = .ok (.aload_n 0, 1) := by decide +kernel
theorem d_Mod_remember_49 : decode M_Mod_remember.2.1 49 = .ok (.aload_n 0, 1) := by decide +kernel
theorem d_Mod_remember_50 : decode M_Mod_remember.2.1 50 = .ok (.getfield 163, 3) := by decide +kernel
theorem d_Mod_remember_53 : decode M_Mod_remember.2.1 53 = .ok (.putfield 212, 3) := by decide +kernel
theorem d_Mod_remember_56 : decode M_Mod_remember.2.1 56 = .ok (.iconst 0, 1) := by decide +kernel
theorem d_Mod_remember_57 : decode M_Mod_remember.2.1 57 = .ok (.istore_n 1, 1) := by decide +kernel
theorem d_Mod_remember_58 : decode M_Mod_remember.2.1 58 = .ok (.iload_n 1, 1) := by decide +kernel
theorem d_Mod_remember_59 : decode M_Mod_remember.2.1 59 = .ok (.bipush 80, 2) := by decide +kernel
theorem d_Mod_remember_61 : decode M_Mod_remember.2.1 61 = .ok (.if_icmp .ge 33, 3) := by decide +kernel
theorem d_Mod_remember_64 : decode M_Mod_remember.2.1 64 = .ok (.aload_n 0, 1) := by decide +kernel
theorem d_Mod_remember_65 : decode M_Mod_remember.2.1 65 = .ok (.getfield 63, 3) := by decide +kernel
theorem d_Mod_remember_68 : decode M_Mod_remember.2.1 68 = .ok (.iload_n 1, 1) := by decide +kernel
theorem d_Mod_remember_69 : decode M_Mod_remember.2.1 69 = .ok (.aload_n 0, 1) := by decide +kernel
theorem d_Mod_remember_70 : decode M_Mod_remember.2.1 70 = .ok (.getfield 29, 3) := by decide +kernel
theorem d_Mod_remember_73 : decode M_Mod_remember.2.1 73 = .ok (.iload_n 1, 1) := by decide +kernel
theorem d_Mod_remember_74 : decode M_Mod_remember.2.1 74 = .ok (.iaload, 1) := by decide +kernel
theorem d_Mod_remember_75 : decode M_Mod_remember.2.1 75 = .ok (.iastore, 1) := by decide +kernel
theorem d_Mod_remember_76 : decode M_Mod_remember.2.1 76 = .ok (.aload_n 0, 1) := by decide +kernel
theorem d_Mod_remember_77 : decode M_Mod_remember.2.1 77 = .ok (.getfield 66, 3) := by decide +kernel
theorem d_Mod_remember_80 : decode M_Mod_remember.2.1 80 = .ok (.iload_n 1, 1) := by decide +kernel
theorem d_Mod_remember_81 : decode M_Mod_remember.2.1 81 = .ok (.aload_n 0, 1) := by decide +kernel
theorem d_Mod_remember_82 : decode M_Mod_remember.2.1 82 = .ok (.getfield 32, 3) := by decide +kernel
theorem d_Mod_remember_85 : decode M_Mod_remember.2.1 85 = .ok (.iload_n 1, 1) := by decide +kernel
theorem d_Mod_remember_86 : decode M_Mod_remember.2.1 86 = .ok (.iaload, 1) := by decide +kernel
theorem d_Mod_remember_87 : decode M_Mod_remember.2.1 87 = .ok (.iastore, 1) := by decide +kernel
theorem d_Mod_remember_88 : decode M_Mod_remember.2.1 88 = .ok (.iinc 1 1, 3) := by decide +kernel
theorem d_Mod_remember_91 : decode M_Mod_remember.2.1 91 = .ok (.goto (-33), 3) := by decide +kernel
theorem d_Mod_remember_94 : decode M_Mod_remember.2.1 94 = .ok (.iconst 0, 1) := by decide +kernel
theorem d_Mod_remember_95 : decode M_Mod_remember.2.1 95 = .ok (.istore_n 1, 1) := by decide +kernel
theorem d_Mod_remember_96 : decode M_Mod_remember.2.1 96 = .ok (.iload_n 1, 1) := by decide +kernel
theorem d_Mod_remember_97 : decode M_Mod_remember.2.1 97 = .ok (.sipush 1040, 3) := by decide +kernel
theorem d_Mod_remember_100 : decode M_Mod_remember.2.1 100 = .ok (.if_icmp .ge 21, 3) := by decide +kernel
theorem d_Mod_remember_103 : decode M_Mod_remember.2.1 103 = .ok (.aload_n 0, 1) := by decide +kernel
theorem d_Mod_remember_104 : decode M_Mod_remember.2.1 104 = .ok (.getfield 69, 3) := by decide +kernel
theorem d_Mod_remember_107 : decode M_Mod_remember.2.1 107 = .ok (.iload_n 1, 1) := by decide +kernel
theorem d_Mod_remember_108 : decode M_Mod_remember.2.1 108 = .ok (.aload_n 0, 1) := by decide +kernel
theorem d_Mod_remember_109 : decode M_Mod_remember.2.1 109 = .ok (.getfield 42, 3) := by decide +kernel
theorem d_Mod_remember_112 : decode M_Mod_remember.2.1 112 = .ok (.iload_n 1, 1) := by decide +kernel
theorem d_Mod_remember_113 : decode M_Mod_remember.2.1 113 = .ok (.iaload, 1) := by decide +kernel
theorem d_Mod_remember_114 : decode M_Mod_remember.2.1 114 = .ok (.iastore, 1) := by decide +kernel
theorem d_Mod_remember_115 : decode M_Mod_remember.2.1 115 = .ok (.iinc 1 1, 3) := by decide +kernel
theorem d_Mod_remember_118 : decode M_Mod_remember.2.1 118 = .ok (.goto (-22), 3) := by decide +kernel
theorem d_Mod_remember_121 : decode M_Mod_remember.2.1 121 = .ok (.iconst 0, 1) := by decide +kernel
theorem d_Mod_remember_122 : decode M_Mod_remember.2.1 122 = .ok (.istore_n 1, 1) := by decide +kernel
theorem d_Mod_remember_123 : decode M_Mod_remember.2.1 123 = .ok (.iload_n 1, 1) := by decide +kernel
theorem d_Mod_remember_124 : decode M_Mod_remember.2.1 124 = .ok (.bipush 64, 2) := by decide +kernel
theorem d_Mod_remember_126 : decode M_Mod_remember.2.1 126 = .ok (.if_icmp .ge 21, 3) := by decide +kernel
theorem d_Mod_remember_129 : decode M_Mod_remember.2.1 129 = .ok (.aload_n 0, 1) := by decide +kernel
theorem d_Mod_remember_130 : decode M_Mod_remember.2.1 130 = .ok (.getfield 72, 3) := by decide +kernel
theorem d_Mod_remember_133 : decode M_Mod_remember.2.1 133 = .ok (.iload_n 1, 1) := by decide +kernel
theorem d_Mod_remember_134 : decode M_Mod_remember.2.1 134 = .ok (.aload_n 0, 1) := by decide +kernel
theorem d_Mod_remember_135 : decode M_Mod_remember.2.1 135 = .ok (.getfield 48, 3) := by decide +kernel
theorem d_Mod_remember_138 : decode M_Mod_remember.2.1 138 = .ok (.iload_n 1, 1) := by decide +kernel
theorem d_Mod_remember_139 : decode M_Mod_remember.2.1 139 = .ok (.iaload, 1) := by decide +kernel
theorem d_Mod_remember_140 : decode M_Mod_remember.2.1 140 = .ok (.iastore, 1) := by decide +kernel
theorem d_Mod_remember_141 : decode M_Mod_remember.2.1 141 = .ok (.iinc 1 1, 3) := by decide +kernel
theorem d_Mod_remember_144 : decode M_Mod_remember.2.1 144 = .ok (.goto (-21), 3) := by decide +kernel
theorem d_Mod_remember_147 : decode M_Mod_remember.2.1 147 = .ok (.return_, 1) := by decide +kernel
theorem d_Mod_pack_0 : decode M_Mod_pack.2.1 0 = .ok (.aload_n 0, 1) := by decide +kernel
theorem d_Mod_pack_1 : decode M_Mod_pack.2.1 1 = .ok (.iload_n 1, 1) := by decide +kernel
theorem d_Mod_pack_2 : decode M_Mod_pack.2.1 2 = .ok (.iconst 1, 1) := by decide +kernel
theorem d_Mod_pack_3 : decode M_Mod_pack.2.1 3 = .ok (.if_icmp .lt 9, 3) := by decide +kernel
theorem d_Mod_pack_6 : decode M_Mod_pack.2.1 6 = .ok (.iload_n 1, 1) := by decide +kernel
theorem d_Mod_pack_7 : decode M_Mod_pack.2.1 7 = .ok (.bipush 8, 2) := by decide +kernel
theorem d_Mod_pack_9 : decode M_Mod_pack.2.1 9 = .ok (.if_icmp .le 7, 3) := by decide +kernel
theorem d_Mod_pack_12 : decode M_Mod_pack.2.1 12 = .ok (.iconst 1, 1) := by decide +kernel
theorem d_Mod_pack_13 : decode M_Mod_pack.2.1 13 = .ok (.goto 4, 3) := by decide +kernel
theorem d_Mod_pack_16 : decode M_Mod_pack.2.1 16 = .ok (.iconst 0, 1) := by decide +kernel
theorem d_Mod_pack_17 : decode M_Mod_pack.2.1 17 = .ok (.putfield 75, 3) := by decide +kernel
theorem d_Mod_pack_20 : decode M_Mod_pack.2.1 20 = .ok (.aload_n 0, 1) := by decide +kernel
theorem d_Mod_pack_21 : decode M_Mod_pack.2.1 21 = .ok (.getfield 75, 3) := by decide +kernel
theorem d_Mod_pack_24 : decode M_Mod_pack.2.1 24 = .ok (.ifCond .eq 5, 3) := by decide +kernel
theorem d_Mod_pack_27 : decode M_Mod_pack.2.1 27 = .ok (.iconst 0, 1) := by decide +kernel
theorem d_Mod_pack_28 : decode M_Mod_pack.2.1 28 = .ok (.ireturn, 1) := by decide +kernel
theorem d_Mod_pack_29 : decode M_Mod_pack.2.1 29 = .ok (.aload_n 0, 1) := by decide +kernel
theorem d_Mod_pack_30 : decode M_Mod_pack.2.1 30 = .ok (.iconst 0, 1) := by decide +kernel
theorem d_Mod_pack_31 : decode M_Mod_pack.2.1 31 = .ok (.putfield 86, 3) := by decide +kernel
theorem d_Mod_pack_34 : decode M_Mod_pack.2.1 34 = .ok (.aload_n 0, 1) := by decide +kernel
theorem d_Mod_pack_35 : decode M_Mod_pack.2.1 35 = .ok (.iconst 0, 1) := by decide +kernel
theorem d_Mod_pack_36 : decode M_Mod_pack.2.1 36 = .ok (.putfield 146, 3) := by decide +kernel
theorem d_Mod_pack_39 : decode M_Mod_pack.2.1 39 = .ok (.aload_n 0, 1) := by decide +kernel
theorem d_Mod_pack_40 : decode M_Mod_pack.2.1 40 = .ok (.bipush 83, 2) := by decide +kernel
theorem d_Mod_pack_42 : decode M_Mod_pack.2.1 42 = .ok (.bipush 8, 2) := by decide +kernel
theorem d_Mod_pack_44 : decode M_Mod_pack.2.1 44 = .ok (.invokevirtual 152, 3) := by decide +kernel
theorem d_Mod_pack_47 : decode M_Mod_pack.2.1 47 = .ok (.aload_n 0, 1) := by decide +kernel
theorem d_Mod_pack_48 : decode M_Mod_pack.2.1 48 = .ok (.bipush 66, 2) := by decide +kernel
theorem d_Mod_pack_50 : decode M_Mod_pack.2.1 50 = .ok (.bipush 8, 2) := by decide +kernel
theorem d_Mod_pack_52 : decode M_Mod_pack.2.1 52 = .ok (.invokevirtual 152, 3) := by decide +kernel
theorem d_Mod_pack_55 : decode M_Mod_pack.2.1 55 = .ok (.aload_n 0, 1) := by decide +kernel
theorem d_Mod_pack_56 : decode M_Mod_pack.2.1 56 = .ok (.iload_n 1, 1) := by decide +kernel
theorem d_Mod_pack_57 : decode M_Mod_pack.2.1 57 = .ok (.bipush 8, 2) := by decide +kernel
theorem d_Mod_pack_59 : decode M_Mod_pack.2.1 59 = .ok (.invokevirtual 152, 3) := by decide +kernel
theorem d_Mod_pack_62 : decode M_Mod_pack.2.1 62 = .ok (.iconst 0, 1) := by decide +kernel
theorem d_Mod_pack_63 : decode M_Mod_pack.2.1 63 = .ok (.istore_n 2, 1) := by decide +kernel
theorem d_Mod_pack_64 : decode M_Mod_pack.2.1 64 = .ok (.iconst 0, 1) := by decide +kernel
theorem d_Mod_pack_65 : decode M_Mod_pack.2.1 65 = .ok (.istore_n 3, 1) := by decide +kernel
theorem d_Mod_pack_66 : decode M_Mod_pack.2.1 66 = .ok (.aload_n 0, 1) := by decide +kernel
theorem d_Mod_pack_67 : decode M_Mod_pack.2.1 67 = .ok (.iconst 0, 1) := by decide +kernel
theorem d_Mod_pack_68 : decode M_Mod_pack.2.1 68 = .ok (.putfield 215, 3) := by decide +kernel
theorem d_Mod_pack_71 : decode M_Mod_pack.2.1 71 = .ok (.iload_n 3, 1) := by decide +kernel
theorem d_Mod_pack_72 : decode M_Mod_pack.2.1 72 = .ok (.aload_n 0, 1) := by decide +kernel
theorem d_Mod_pack_73 : decode M_Mod_pack.2.1 73 = .ok (.getfield 78, 3) := by decide +kernel
theorem d_Mod_pack_76 : decode M_Mod_pack.2.1 76 = .ok (.if_icmp .ge 41, 3) := by decide +kernel
theorem d_Mod_pack_79 : decode M_Mod_pack.2.1 79 = .ok (.iload_n 3, 1) := by decide +kernel
theorem d_Mod_pack_80 : decode M_Mod_pack.2.1 80 = .ok (.aload_n 0, 1) := by decide +kernel
theorem d_Mod_pack_81 : decode M_Mod_pack.2.1 81 = .ok (.iload_n 3, 1) := by decide +kernel
theorem d_Mod_pack_82 : decode M_Mod_pack.2.1 82 = .ok (.bipush 8, 2) := by decide +kernel
theorem d_Mod_pack_84 : decode M_Mod_pack.2.1 84 = .ok (.iload_n 1, 1) := by decide +kernel
theorem d_Mod_pack_85 : decode M_Mod_pack.2.1 85 = .ok (.imul, 1) := by decide +kernel
theorem d_Mod_pack_86 : decode M_Mod_pack.2.1 86 = .ok (.invokevirtual 218, 3) := by decide +kernel
theorem d_Mod_pack_89 : decode M_Mod_pack.2.1 89 = .ok (.iadd, 1) := by decide +kernel
theorem d_Mod_pack_90 : decode M_Mod_pack.2.1 90 = .ok (.istore_n 3, 1) := by decide +kernel
theorem d_Mod_pack_91 : decode M_Mod_pack.2.1 91 = .ok (.iload_n 2, 1) := by decide +kernel
theorem d_Mod_pack_92 : decode M_Mod_pack.2.1 92 = .ok (.aload_n 0, 1) := by decide +kernel
theorem d_Mod_pack_93 : decode M_Mod_pack.2.1 93 = .ok (.getfield 163, 3) := by decide +kernel
theorem d_Mod_pack_96 : decode M_Mod_pack.2.1 96 = .ok (.invokestatic 221, 3) := by decide +kernel
theorem d_Mod_pack_99 : decode M_Mod_pack.2.1 99 = .ok (.istore_n 2, 1) := by decide +kernel
theorem d_Mod_pack_100 : decode M_Mod_pack.2.1 100 = .ok (.aload_n 0, 1) := by decide +kernel
theorem d_Mod_pack_101 : decode M_Mod_pack.2.1 101 = .ok (.invokevirtual 224, 3) := by decide +kernel
theorem d_Mod_pack_104 : decode M_Mod_pack.2.1 104 = .ok (.aload_n 0, 1) := by decide +kernel
theorem d_Mod_pack_105 : decode M_Mod_pack.2.1 105 = .ok (.dup, 1) := by decide +kernel
theorem d_Mod_pack_106 : decode M_Mod_pack.2.1 106 = .ok (.getfield 215, 3) := by decide +kernel
theorem d_Mod_pack_109 : decode M_Mod_pack.2.1 109 = .ok (.iconst 1, 1) := by decide +kernel
theorem d_Mod_pack_110 : decode M_Mod_pack.2.1 110 = .ok (.iadd, 1) := by decide +kernel
theorem d_Mod_pack_111 : decode M_Mod_pack.2.1 111 = .ok (.putfield 215, 3) := by decide +kernel
theorem d_Mod_pack_114 : decode M_Mod_pack.2.1 114 = .ok (.goto (-43), 3) := by decide +kernel
theorem d_Mod_pack_117 : decode M_Mod_pack.2.1 117 = .ok (.aload_n 0, 1) := by decide +kernel
theorem d_Mod_pack_118 : decode M_Mod_pack.2.1 118 = .ok (.ldc 227, 2) := by decide +kernel
theorem d_Mod_pack_120 : decode M_Mod_pack.2.1 120 = .ok (.bipush 24, 2) := by decide +kernel
theorem d_Mod_pack_122 : decode M_Mod_pack.2.1 122 = .ok (.invokevirtual 152, 3) := by decide +kernel
theorem d_Mod_pack_125 : decode M_Mod_pack.2.1 125 = .ok (.aload_n 0, 1) := by decide +kernel
theorem d_Mod_pack_126 : decode M_Mod_pack.2.1 126 = .ok (.iload_n 2, 1) := by decide +kernel
theorem d_Mod_pack_127 : decode M_Mod_pack.2.1 127 = .ok (.bipush 16, 2) := by decide +kernel
theorem d_Mod_pack_129 : decode M_Mod_pack.2.1 129 = .ok (.invokevirtual 152, 3) := by decide +kernel
theorem d_Mod_pack_132 : decode M_Mod_pack.2.1 132 = .ok (.aload_n 0, 1) := by decide +kernel
theorem d_Mod_pack_133 : decode M_Mod_pack.2.1 133 = .ok (.invokevirtual 228, 3) := by decide +kernel
theorem d_Mod_pack_136 : decode M_Mod_pack.2.1 136 = .ok (.aload_n 0, 1) := by decide +kernel
theorem d_Mod_pack_137 : decode M_Mod_pack.2.1 137 = .ok (.getfield 83, 3) := by decide +kernel
theorem d_Mod_pack_140 : decode M_Mod_pack.2.1 140 = .ok (.ireturn, 1) := by decide +kernel
theorem d_Mod_fail_0 : decode M_Mod_fail.2.1 0 = .ok (.aload_n 0, 1) := by decide +kernel
theorem d_Mod_fail_1 : decode M_Mod_fail.2.1 1 = .ok (.getfield 231, 3) := by decide +kernel
theorem d_Mod_fail_4 : decode M_Mod_fail.2.1 4 = .ok (.ifCond .ne 13, 3) := by decide +kernel
theorem d_Mod_fail_7 : decode M_Mod_fail.2.1 7 = .ok (.aload_n 0, 1) := by decide +kernel
theorem d_Mod_fail_8 : decode M_Mod_fail.2.1 8 = .ok (.iload_n 1, 1) := by decide +kernel
theorem d_Mod_fail_9 : decode M_Mod_fail.2.1 9 = .ok (.putfield 231, 3) := by decide +kernel
theorem d_Mod_fail_12 : decode M_Mod_fail.2.1 12 = .ok (.aload_n 0, 1) := by decide +kernel
theorem d_Mod_fail_13 : decode M_Mod_fail.2.1 13 = .ok (.iload_n 2, 1) := by decide +kernel
theorem d_Mod_fail_14 : decode M_Mod_fail.2.1 14 = .ok (.putfield 234, 3) := by decide +kernel
theorem d_Mod_fail_17 : decode M_Mod_fail.2.1 17 = .ok (.return_, 1) := by decide +kernel
theorem d_Mod_take_0 : decode M_Mod_take.2.1 0 = .ok (.aload_n 0, 1) := by decide +kernel
theorem d_Mod_take_1 : decode M_Mod_take.2.1 1 = .ok (.getfield 231, 3) := by decide +kernel
theorem d_Mod_take_4 : decode M_Mod_take.2.1 4 = .ok (.ifCond .ne 19, 3) := by decide +kernel
theorem d_Mod_take_7 : decode M_Mod_take.2.1 7 = .ok (.aload_n 0, 1) := by decide +kernel
theorem d_Mod_take_8 : decode M_Mod_take.2.1 8 = .ok (.getfield 237, 3) := by decide +kernel
theorem d_Mod_take_11 : decode M_Mod_take.2.1 11 = .ok (.iload_n 1, 1) := by decide +kernel
theorem d_Mod_take_12 : decode M_Mod_take.2.1 12 = .ok (.iadd, 1) := by decide +kernel
theorem d_Mod_take_13 : decode M_Mod_take.2.1 13 = .ok (.bipush 8, 2) := by decide +kernel
theorem d_Mod_take_15 : decode M_Mod_take.2.1 15 = .ok (.aload_n 0, 1) := by decide +kernel
theorem d_Mod_take_16 : decode M_Mod_take.2.1 16 = .ok (.getfield 78, 3) := by decide +kernel
theorem d_Mod_take_19 : decode M_Mod_take.2.1 19 = .ok (.imul, 1) := by decide +kernel
theorem d_Mod_take_20 : decode M_Mod_take.2.1 20 = .ok (.if_icmp .le 12, 3) := by decide +kernel
theorem d_Mod_take_23 : decode M_Mod_take.2.1 23 = .ok (.aload_n 0, 1) := by decide +kernel
theorem d_Mod_take_24 : decode M_Mod_take.2.1 24 = .ok (.bipush (-2), 2) := by decide +kernel
theorem d_Mod_take_26 : decode M_Mod_take.2.1 26 = .ok (.iload_n 2, 1) := by decide +kernel
theorem d_Mod_take_27 : decode M_Mod_take.2.1 27 = .ok (.invokevirtual 240, 3) := by decide +kernel
theorem d_Mod_take_30 : decode M_Mod_take.2.1 30 = .ok (.iconst 0, 1) := by decide +kernel
theorem d_Mod_take_31 : decode M_Mod_take.2.1 31 = .ok (.ireturn, 1) := by decide +kernel
theorem d_Mod_take_32 : decode M_Mod_take.2.1 32 = .ok (.iconst 0, 1) := by decide +kernel
theorem d_Mod_take_33 : decode M_Mod_take.2.1 33 = .ok (.istore_n 3, 1) := by decide +kernel
theorem d_Mod_take_34 : decode M_Mod_take.2.1 34 = .ok (.iconst 0, 1) := by decide +kernel
theorem d_Mod_take_35 : decode M_Mod_take.2.1 35 = .ok (.istore 4, 2) := by decide +kernel
theorem d_Mod_take_37 : decode M_Mod_take.2.1 37 = .ok (.iload 4, 2) := by decide +kernel
theorem d_Mod_take_39 : decode M_Mod_take.2.1 39 = .ok (.iload_n 1, 1) := by decide +kernel
theorem d_Mod_take_40 : decode M_Mod_take.2.1 40 = .ok (.if_icmp .ge 49, 3) := by decide +kernel
theorem d_Mod_take_43 : decode M_Mod_take.2.1 43 = .ok (.iconst 2, 1) := by decide +kernel
theorem d_Mod_take_44 : decode M_Mod_take.2.1 44 = .ok (.iload_n 3, 1) := by decide +kernel
theorem d_Mod_take_45 : decode M_Mod_take.2.1 45 = .ok (.imul, 1) := by decide +kernel
theorem d_Mod_take_46 : decode M_Mod_take.2.1 46 = .ok (.aload_n 0, 1) := by decide +kernel
theorem d_Mod_take_47 : decode M_Mod_take.2.1 47 = .ok (.getfield 7, 3) := by decide +kernel
theorem d_Mod_take_50 : decode M_Mod_take.2.1 50 = .ok (.aload_n 0, 1) := by decide +kernel
theorem d_Mod_take_51 : decode M_Mod_take.2.1 51 = .ok (.getfield 237, 3) := by decide +kernel
theorem d_Mod_take_54 : decode M_Mod_take.2.1 54 = .ok (.bipush 8, 2) := by decide +kernel
theorem d_Mod_take_56 : decode M_Mod_take.2.1 56 = .ok (.idiv, 1) := by decide +kernel
theorem d_Mod_take_57 : decode M_Mod_take.2.1 57 = .ok (.iaload, 1) := by decide +kernel
theorem d_Mod_take_58 : decode M_Mod_take.2.1 58 = .ok (.bipush 7, 2) := by decide +kernel
theorem d_Mod_take_60 : decode M_Mod_take.2.1 60 = .ok (.aload_n 0, 1) := by decide +kernel
theorem d_Mod_take_61 : decode M_Mod_take.2.1 61 = .ok (.getfield 237, 3) := by decide +kernel
theorem d_Mod_take_64 : decode M_Mod_take.2.1 64 = .ok (.bipush 8, 2) := by decide +kernel
theorem d_Mod_take_66 : decode M_Mod_take.2.1 66 = .ok (.irem, 1) := by decide +kernel
theorem d_Mod_take_67 : decode M_Mod_take.2.1 67 = .ok (.isub, 1) := by decide +kernel
theorem d_Mod_take_68 : decode M_Mod_take.2.1 68 = .ok (.ishr, 1) := by decide +kernel
theorem d_Mod_take_69 : decode M_Mod_take.2.1 69 = .ok (.iconst 1, 1) := by decide +kernel
theorem d_Mod_take_70 : decode M_Mod_take.2.1 70 = .ok (.iand, 1) := by decide +kernel
theorem d_Mod_take_71 : decode M_Mod_take.2.1 71 = .ok (.iadd, 1) := by decide +kernel
theorem d_Mod_take_72 : decode M_Mod_take.2.1 72 = .ok (.istore_n 3, 1) := by decide +kernel
theorem d_Mod_take_73 : decode M_Mod_take.2.1 73 = .ok (.aload_n 0, 1) := by decide +kernel
theorem d_Mod_take_74 : decode M_Mod_take.2.1 74 = .ok (.dup, 1) := by decide +kernel
theorem d_Mod_take_75 : decode M_Mod_take.2.1 75 = .ok (.getfield 237, 3) := by decide +kernel
theorem d_Mod_take_78 : decode M_Mod_take.2.1 78 = .ok (.iconst 1, 1) := by decide +kernel
theorem d_Mod_take_79 : decode M_Mod_take.2.1 79 = .ok (.iadd, 1) := by decide +kernel
theorem d_Mod_take_80 : decode M_Mod_take.2.1 80 = .ok (.putfield 237, 3) := by decide +kernel
theorem d_Mod_take_83 : decode M_Mod_take.2.1 83 = .ok (.iinc 4 1, 3) := by decide +kernel
theorem d_Mod_take_86 : decode M_Mod_take.2.1 86 = .ok (.goto (-49), 3) := by decide +kernel
theorem d_Mod_take_89 : decode M_Mod_take.2.1 89 = .ok (.iload_n 3, 1) := by decide +kernel
theorem d_Mod_take_90 : decode M_Mod_take.2.1 90 = .ok (.ireturn, 1) := by decide +kernel
theorem d_Mod_failIf_0 : decode M_Mod_failIf.2.1 0 = .ok (.iload_n 1, 1) := by decide +kernel
theorem d_Mod_failIf_1 : decode M_Mod_failIf.2.1 1 = .ok (.ifCond .eq 9, 3) := by decide +kernel
theorem d_Mod_failIf_4 : decode M_Mod_failIf.2.1 4 = .ok (.aload_n 0, 1) := by decide +kernel
theorem d_Mod_failIf_5 : decode M_Mod_failIf.2.1 5 = .ok (.iload_n 2, 1) := by decide +kernel
theorem d_Mod_failIf_6 : decode M_Mod_failIf.2.1 6 = .ok (.iload_n 3, 1) := by decide +kernel
theorem d_Mod_failIf_7 : decode M_Mod_failIf.2.1 7 = .ok (.invokevirtual 240, 3) := by decide +kernel
theorem d_Mod_failIf_10 : decode M_Mod_failIf.2.1 10 = .ok (.return_, 1) := by decide +kernel
theorem d_Mod_readMaps_0 : decode M_Mod_readMaps.2.1 0 = .ok (.iconst 0, 1) := by decide +kernel
theorem d_Mod_readMaps_1 : decode M_Mod_readMaps.2.1 1 = .ok (.istore_n 1, 1) := by decide +kernel
theorem d_Mod_readMaps_2 : decode M_Mod_readMaps.2.1 2 = .ok (.iload_n 1, 1) := by decide +kernel
theorem d_Mod_readMaps_3 : decode M_Mod_readMaps.2.1 3 = .ok (.sipush 256, 3) := by decide +kernel
theorem d_Mod_readMaps_6 : decode M_Mod_readMaps.2.1 6 = .ok (.if_icmp .ge 16, 3) := by decide +kernel
theorem d_Mod_readMaps_9 : decode M_Mod_readMaps.2.1 9 = .ok (.aload_n 0, 1) := by decide +kernel
theorem d_Mod_readMaps_10 : decode M_Mod_readMaps.2.1 10 = .ok (.getfield 35, 3) := by decide +kernel
theorem d_Mod_readMaps_13 : decode M_Mod_readMaps.2.1 13 = .ok (.iload_n 1, 1) := by decide +kernel
theorem d_Mod_readMaps_14 : decode M_Mod_readMaps.2.1 14 = .ok (.iconst 0, 1) := by decide +kernel
theorem d_Mod_readMaps_15 : decode M_Mod_readMaps.2.1 15 = .ok (.bastore, 1) := by decide +kernel
theorem d_Mod_readMaps_16 : decode M_Mod_readMaps.2.1 16 = .ok (.iinc 1 1, 3) := by decide +kernel
theorem d_Mod_readMaps_19 : decode M_Mod_readMaps.2.1 19 = .ok (.goto (-17), 3) := by decide +kernel
theorem d_Mod_readMaps_22 : decode M_Mod_readMaps.2.1 22 = .ok (.aload_n 0, 1) := by decide +kernel
theorem d_Mod_readMaps_23 : decode M_Mod_readMaps.2.1 23 = .ok (.getfield 237, 3) := by decide +kernel
theorem d_Mod_readMaps_26 : decode M_Mod_readMaps.2.1 26 = .ok (.istore_n 1, 1) := by decide +kernel
theorem d_Mod_readMaps_27 : decode M_Mod_readMaps.2.1 27 = .ok (.aload_n 0, 1) := by decide +kernel
theorem d_Mod_readMaps_28 : decode M_Mod_readMaps.2.1 28 = .ok (.bipush 16, 2) := by decide +kernel
theorem d_Mod_readMaps_30 : decode M_Mod_readMaps.2.1 30 = .ok (.iload_n 1, 1) := by decide +kernel
theorem d_Mod_readMaps_31 : decode M_Mod_readMaps.2.1 31 = .ok (.invokevirtual 243, 3) := by decide +kernel
theorem d_Mod_readMaps_34 : decode M_Mod_readMaps.2.1 34 = .ok (.istore_n 2, 1) := by decide +kernel
theorem d_Mod_readMaps_35 : decode M_Mod_readMaps.2.1 35 = .ok (.iconst 0, 1) := by decide +kernel
theorem d_Mod_readMaps_36 : decode M_Mod_readMaps.2.1 36 = .ok (.istore_n 3, 1) := by decide +kernel
theorem d_Mod_readMaps_37 : decode M_Mod_readMaps.2.1 37 = .ok (.iload_n 3, 1) := by decide +kernel
theorem d_Mod_readMaps_38 : decode M_Mod_readMaps.2.1 38 = .ok (.bipush 16, 2) := by decide +kernel
theorem d_Mod_readMaps_40 : decode M_Mod_readMaps.2.1 40 = .ok (.if_icmp .ge 89, 3) := by decide +kernel
theorem d_Mod_readMaps_43 : decode M_Mod_readMaps.2.1 43 = .ok (.aload_n 0, 1) := by decide +kernel
theorem d_Mod_readMaps_44 : decode M_Mod_readMaps.2.1 44 = .ok (.getfield 231, 3) := by decide +kernel
theorem d_Mod_readMaps_47 : decode M_Mod_readMaps.2.1 47 = .ok (.ifCond .ne 82, 3) := by decide +kernel
theorem d_Mod_readMaps_50 : decode M_Mod_readMaps.2.1 50 = .ok (.iload_n 2, 1) := by decide +kernel
theorem d_Mod_readMaps_51 : decode M_Mod_readMaps.2.1 51 = .ok (.bipush 15, 2) := by decide +kernel
theorem d_Mod_readMaps_53 : decode M_Mod_readMaps.2.1 53 = .ok (.iload_n 3, 1) := by decide +kernel
theorem d_Mod_readMaps_54 : decode M_Mod_readMaps.2.1 54 = .ok (.isub, 1) := by decide +kernel
theorem d_Mod_readMaps_55 : decode M_Mod_readMaps.2.1 55 = .ok (.ishr, 1) := by decide +kernel
theorem d_Mod_readMaps_56 : decode M_Mod_readMaps.2.1 56 = .ok (.iconst 1, 1) := by decide +kernel
theorem d_Mod_readMaps_57 : decode M_Mod_readMaps.2.1 57 = .ok (.iand, 1) := by decide +kernel
theorem d_Mod_readMaps_58 : decode M_Mod_readMaps.2.1 58 = .ok (.iconst 1, 1) := by decide +kernel
theorem d_Mod_readMaps_59 : decode M_Mod_readMaps.2.1 59 = .ok (.if_icmp .ne 64, 3) := by decide +kernel
theorem d_Mod_readMaps_62 : decode M_Mod_readMaps.2.1 62 = .ok (.aload_n 0, 1) := by decide +kernel
theorem d_Mod_readMaps_63 : decode M_Mod_readMaps.2.1 63 = .ok (.getfield 237, 3) := by decide +kernel
theorem d_Mod_readMaps_66 : decode M_Mod_readMaps.2.1 66 = .ok (.istore_n 1, 1) := by decide +kernel
theorem d_Mod_readMaps_67 : decode M_Mod_readMaps.2.1 67 = .ok (.aload_n 0, 1) := by decide +kernel
theorem d_Mod_readMaps_68 : decode M_Mod_readMaps.2.1 68 = .ok (.bipush 16, 2) := by decide +kernel
theorem d_Mod_readMaps_70 : decode M_Mod_readMaps.2.1 70 = .ok (.iload_n 1, 1) := by decide +kernel
theorem d_Mod_readMaps_71 : decode M_Mod_readMaps.2.1 71 = .ok (.invokevirtual 243, 3) := by decide +kernel
theorem d_Mod_readMaps_74 : decode M_Mod_readMaps.2.1 74 = .ok (.istore 4, 2) := by decide +kernel
theorem d_Mod_readMaps_76 : decode M_Mod_readMaps.2.1 76 = .ok (.iconst 0, 1) := by decide +kernel
theorem d_Mod_readMaps_77 : decode M_Mod_readMaps.2.1 77 = .ok (.istore 5, 2) := by decide +kernel
theorem d_Mod_readMaps_79 : decode M_Mod_readMaps.2.1 79 = .ok (.iload 5, 2) := by decide +kernel
theorem d_Mod_readMaps_81 : decode M_Mod_readMaps.2.1 81 = .ok (.bipush 16, 2) := by decide +kernel
theorem d_Mod_readMaps_83 : decode M_Mod_readMaps.2.1 83 = .ok (.if_icmp .ge 40, 3) := by decide +kernel
theorem d_Mod_readMaps_86 : decode M_Mod_readMaps.2.1 86 = .ok (.aload_n 0, 1) := by decide +kernel
theorem d_Mod_readMaps_87 : decode M_Mod_readMaps.2.1 87 = .ok (.getfield 35, 3) := by decide +kernel
theorem d_Mod_readMaps_90 : decode M_Mod_readMaps.2.1 90 = .ok (.bipush 16, 2) := by decide +kernel
theorem d_Mod_readMaps_92 : decode M_Mod_readMaps.2.1 92 = .ok (.iload_n 3, 1) := by decide +kernel
theorem d_Mod_readMaps_93 : decode M_Mod_readMaps.2.1 93 = .ok (.imul, 1) := by decide +kernel
theorem d_Mod_readMaps_94 : decode M_Mod_readMaps.2.1 94 = .ok (.iload 5, 2) := by decide +kernel
theorem d_Mod_readMaps_96 : decode M_Mod_readMaps.2.1 96 = .ok (.iadd, 1) := by decide +kernel
theorem d_Mod_readMaps_97 : decode M_Mod_readMaps.2.1 97 = .ok (.iload 4, 2) := by decide +kernel
theorem d_Mod_readMaps_99 : decode M_Mod_readMaps.2.1 99 = .ok (.bipush 15, 2) := by decide +kernel
theorem d_Mod_readMaps_101 : decode M_Mod_readMaps.2.1 101 = .ok (.iload 5, 2) := by decide +kernel
theorem d_Mod_readMaps_103 : decode M_Mod_readMaps.2.1 103 = .ok (.isub, 1) := by decide +kernel
theorem d_Mod_readMaps_104 : decode M_Mod_readMaps.2.1 104 = .ok (.ishr, 1) := by decide +kernel
theorem d_Mod_readMaps_105 : decode M_Mod_readMaps.2.1 105 = .ok (.iconst 1, 1) := by decide +kernel
theorem d_Mod_readMaps_106 : decode M_Mod_readMaps.2.1 106 = .ok (.iand, 1) := by decide +kernel
theorem d_Mod_readMaps_107 : decode M_Mod_readMaps.2.1 107 = .ok (.iconst 1, 1) := by decide +kernel
theorem d_Mod_readMaps_108 : decode M_Mod_readMaps.2.1 108 = .ok (.if_icmp .ne 7, 3) := by decide +kernel
theorem d_Mod_readMaps_111 : decode M_Mod_readMaps.2.1 111 = .ok (.iconst 1, 1) := by decide +kernel
theorem d_Mod_readMaps_112 : decode M_Mod_readMaps.2.1 112 = .ok (.goto 4, 3) := by decide +kernel
theorem d_Mod_readMaps_115 : decode M_Mod_readMaps.2.1 115 = .ok (.iconst 0, 1) := by decide +kernel
theorem d_Mod_readMaps_116 : decode M_Mod_readMaps.2.1 116 = .ok (.bastore, 1) := by decide +kernel
theorem d_Mod_readMaps_117 : decode M_Mod_readMaps.2.1 117 = .ok (.iinc 5 1, 3) := by decide +kernel
theorem d_Mod_readMaps_120 : decode M_Mod_readMaps.2.1 120 = .ok (.goto (-41), 3) := by decide +kernel
theorem d_Mod_readMaps_123 : decode M_Mod_readMaps.2.1 123 = .ok (.iinc 3 1, 3) := by decide +kernel
theorem d_Mod_readMaps_126 : decode M_Mod_readMaps.2.1 126 = .ok (.goto (-89), 3) := by decide +kernel
theorem d_Mod_readMaps_129 : decode M_Mod_readMaps.2.1 129 = .ok (.aload_n 0, 1) := by decide +kernel
theorem d_Mod_readMaps_130 : decode M_Mod_readMaps.2.1 130 = .ok (.invokevirtual 118, 3) := by decide +kernel
theorem d_Mod_readMaps_133 : decode M_Mod_readMaps.2.1 133 = .ok (.aload_n 0, 1) := by decide +kernel
theorem d_Mod_readMaps_134 : decode M_Mod_readMaps.2.1 134 = .ok (.aload_n 0, 1) := by decide +kernel
theorem d_Mod_readMaps_135 : decode M_Mod_readMaps.2.1 135 = .ok (.getfield 108, 3) := by decide +kernel
theorem d_Mod_readMaps_138 : decode M_Mod_readMaps.2.1 138 = .ok (.ifCond .ne 7, 3) := by decide +kernel
theorem d_Mod_readMaps_141 : decode M_Mod_readMaps.2.1 141 = .ok (.iconst 1, 1) := by decide +kernel
theorem d_Mod_readMaps_142 : decode M_Mod_readMaps.2.1 142 = .ok (.goto 4, 3) := by decide +kernel
theorem d_Mod_readMaps_145 : decode M_Mod_readMaps.2.1 145 = .ok (.iconst 0, 1) := by decide +kernel
theorem d_Mod_readMaps_146 : decode M_Mod_readMaps.2.1 146 = .ok (.bipush (-5), 2) := by decide +kernel
theorem d_Mod_readMaps_148 : decode M_Mod_readMaps.2.1 148 = .ok (.iload_n 1, 1) := by decide +kernel
theorem d_Mod_readMaps_149 : decode M_Mod_readMaps.2.1 149 = .ok (.invokevirtual 246, 3) := by decide +kernel
theorem d_Mod_readMaps_152 : decode M_Mod_readMaps.2.1 152 = .ok (.return_, 1) := by decide +kernel
theorem d_Mod_readPicks_0 : decode M_Mod_readPicks.2.1 0 = .ok (.aload_n 0, 1) := by decide +kernel
theorem d_Mod_readPicks_1 : decode M_Mod_readPicks.2.1 1 = .ok (.invokevirtual 156, 3) := by decide +kernel
theorem d_Mod_readPicks_4 : decode M_Mod_readPicks.2.1 4 = .ok (.iconst 0, 1) := by decide +kernel
theorem d_Mod_readPicks_5 : decode M_Mod_readPicks.2.1 5 = .ok (.istore_n 1, 1) := by decide +kernel
theorem d_Mod_readPicks_6 : decode M_Mod_readPicks.2.1 6 = .ok (.iload_n 1, 1) := by decide +kernel
theorem d_Mod_readPicks_7 : decode M_Mod_readPicks.2.1 7 = .ok (.aload_n 0, 1) := by decide +kernel
theorem d_Mod_readPicks_8 : decode M_Mod_readPicks.2.1 8 = .ok (.getfield 131, 3) := by decide +kernel
theorem d_Mod_readPicks_11 : decode M_Mod_readPicks.2.1 11 = .ok (.if_icmp .ge 88, 3) := by decide +kernel
theorem d_Mod_readPicks_14 : decode M_Mod_readPicks.2.1 14 = .ok (.aload_n 0, 1) := by decide +kernel
theorem d_Mod_readPicks_15 : decode M_Mod_readPicks.2.1 15 = .ok (.getfield 231, 3) := by decide +kernel
theorem d_Mod_readPicks_18 : decode M_Mod_readPicks.2.1 18 = .ok (.ifCond .ne 81, 3) := by decide +kernel
theorem d_Mod_readPicks_21 : decode M_Mod_readPicks.2.1 21 = .ok (.aload_n 0, 1) := by decide +kernel
theorem d_Mod_readPicks_22 : decode M_Mod_readPicks.2.1 22 = .ok (.getfield 237, 3) := by decide +kernel
theorem d_Mod_readPicks_25 : decode M_Mod_readPicks.2.1 25 = .ok (.istore_n 2, 1) := by decide +kernel
theorem d_Mod_readPicks_26 : decode M_Mod_readPicks.2.1 26 = .ok (.iconst 0, 1) := by decide +kernel
theorem d_Mod_readPicks_27 : decode M_Mod_readPicks.2.1 27 = .ok (.istore_n 3, 1) := by decide +kernel
theorem d_Mod_readPicks_28 : decode M_Mod_readPicks.2.1 28 = .ok (.aload_n 0, 1) := by decide +kernel
theorem d_Mod_readPicks_29 : decode M_Mod_readPicks.2.1 29 = .ok (.getfield 231, 3) := by decide +kernel
theorem d_Mod_readPicks_32 : decode M_Mod_readPicks.2.1 32 = .ok (.ifCond .ne 39, 3) := by decide +kernel
theorem d_Mod_readPicks_35 : decode M_Mod_readPicks.2.1 35 = .ok (.aload_n 0, 1) := by decide +kernel
theorem d_Mod_readPicks_36 : decode M_Mod_readPicks.2.1 36 = .ok (.iconst 1, 1) := by decide +kernel
theorem d_Mod_readPicks_37 : decode M_Mod_readPicks.2.1 37 = .ok (.iload_n 2, 1) := by decide +kernel
theorem d_Mod_readPicks_38 : decode M_Mod_readPicks.2.1 38 = .ok (.invokevirtual 243, 3) := by decide +kernel
theorem d_Mod_readPicks_41 : decode M_Mod_readPicks.2.1 41 = .ok (.iconst 1, 1) := by decide +kernel
theorem d_Mod_readPicks_42 : decode M_Mod_readPicks.2.1 42 = .ok (.if_icmp .ne 29, 3) := by decide +kernel
theorem d_Mod_readPicks_45 : decode M_Mod_readPicks.2.1 45 = .ok (.iinc 3 1, 3) := by decide +kernel
theorem d_Mod_readPicks_48 : decode M_Mod_readPicks.2.1 48 = .ok (.aload_n 0, 1) := by decide +kernel
theorem d_Mod_readPicks_49 : decode M_Mod_readPicks.2.1 49 = .ok (.iload_n 3, 1) := by decide +kernel
theorem d_Mod_readPicks_50 : decode M_Mod_readPicks.2.1 50 = .ok (.aload_n 0, 1) := by decide +kernel
theorem d_Mod_readPicks_51 : decode M_Mod_readPicks.2.1 51 = .ok (.getfield 134, 3) := by decide +kernel
theorem d_Mod_readPicks_54 : decode M_Mod_readPicks.2.1 54 = .ok (.if_icmp .ne 7, 3) := by decide +kernel
theorem d_Mod_readPicks_57 : decode M_Mod_readPicks.2.1 57 = .ok (.iconst 1, 1) := by decide +kernel
theorem d_Mod_readPicks_58 : decode M_Mod_readPicks.2.1 58 = .ok (.goto 4, 3) := by decide +kernel
theorem d_Mod_readPicks_61 : decode M_Mod_readPicks.2.1 61 = .ok (.iconst 0, 1) := by decide +kernel
theorem d_Mod_readPicks_62 : decode M_Mod_readPicks.2.1 62 = .ok (.bipush (-8), 2) := by decide +kernel
theorem d_Mod_readPicks_64 : decode M_Mod_readPicks.2.1 64 = .ok (.iload_n 2, 1) := by decide +kernel
theorem d_Mod_readPicks_65 : decode M_Mod_readPicks.2.1 65 = .ok (.invokevirtual 246, 3) := by decide +kernel
theorem d_Mod_readPicks_68 : decode M_Mod_readPicks.2.1 68 = .ok (.goto (-40), 3) := by decide +kernel
theorem d_Mod_readPicks_71 : decode M_Mod_readPicks.2.1 71 = .ok (.aload_n 0, 1) := by decide +kernel
theorem d_Mod_readPicks_72 : decode M_Mod_readPicks.2.1 72 = .ok (.getfield 48, 3) := by decide +kernel
theorem d_Mod_readPicks_75 : decode M_Mod_readPicks.2.1 75 = .ok (.iload_n 1, 1) := by decide +kernel
theorem d_Mod_readPicks_76 : decode M_Mod_readPicks.2.1 76 = .ok (.aload_n 0, 1) := by decide +kernel
theorem d_Mod_readPicks_77 : decode M_Mod_readPicks.2.1 77 = .ok (.getfield 231, 3) := by decide +kernel
theorem d_Mod_readPicks_80 : decode M_Mod_readPicks.2.1 80 = .ok (.ifCond .ne 11, 3) := by decide +kernel
theorem d_Mod_readPicks_83 : decode M_Mod_readPicks.2.1 83 = .ok (.aload_n 0, 1) := by decide +kernel
theorem d_Mod_readPicks_84 : decode M_Mod_readPicks.2.1 84 = .ok (.iload_n 3, 1) := by decide +kernel
theorem d_Mod_readPicks_85 : decode M_Mod_readPicks.2.1 85 = .ok (.invokevirtual 159, 3) := by decide +kernel
theorem d_Mod_readPicks_88 : decode M_Mod_readPicks.2.1 88 = .ok (.goto 4, 3) := by decide +kernel
theorem d_Mod_readPicks_91 : decode M_Mod_readPicks.2.1 91 = .ok (.iconst 0, 1) := by decide +kernel
theorem d_Mod_readPicks_92 : decode M_Mod_readPicks.2.1 92 = .ok (.iastore, 1) := by decide +kernel
theorem d_Mod_readPicks_93 : decode M_Mod_readPicks.2.1 93 = .ok (.iinc 1 1, 3) := by decide +kernel
theorem d_Mod_readPicks_96 : decode M_Mod_readPicks.2.1 96 = .ok (.goto (-90), 3) := by decide +kernel
theorem d_Mod_readPicks_99 : decode M_Mod_readPicks.2.1 99 = .ok (.return_, 1) := by decide +kernel
theorem d_Mod_readTable_0 : decode M_Mod_readTable.2.1 0 = .ok (.aload_n 0, 1) := by decide +kernel
theorem d_Mod_readTable_1 : decode M_Mod_readTable.2.1 1 = .ok (.getfield 237, 3) := by decide +kernel
theorem d_Mod_readTable_4 : decode M_Mod_readTable.2.1 4 = .ok (.istore_n 2, 1) := by decide +kernel
theorem d_Mod_readTable_5 : decode M_Mod_readTable.2.1 5 = .ok (.aload_n 0, 1) := by decide +kernel
theorem d_Mod_readTable_6 : decode M_Mod_readTable.2.1 6 = .ok (.iconst 5, 1) := by decide +kernel
theorem d_Mod_readTable_7 : decode M_Mod_readTable.2.1 7 = .ok (.iload_n 2, 1) := by decide +kernel
theorem d_Mod_readTable_8 : decode M_Mod_readTable.2.1 8 = .ok (.invokevirtual 243, 3) := by decide +kernel
theorem d_Mod_readTable_11 : decode M_Mod_readTable.2.1 11 = .ok (.istore_n 3, 1) := by decide +kernel
theorem d_Mod_readTable_12 : decode M_Mod_readTable.2.1 12 = .ok (.aload_n 0, 1) := by decide +kernel
theorem d_Mod_readTable_13 : decode M_Mod_readTable.2.1 13 = .ok (.iload_n 3, 1) := by decide +kernel
theorem d_Mod_readTable_14 : decode M_Mod_readTable.2.1 14 = .ok (.iconst 1, 1) := by decide +kernel
theorem d_Mod_readTable_15 : decode M_Mod_readTable.2.1 15 = .ok (.if_icmp .lt 9, 3) := by decide +kernel
theorem d_Mod_readTable_18 : decode M_Mod_readTable.2.1 18 = .ok (.iload_n 3, 1) := by decide +kernel
theorem d_Mod_readTable_19 : decode M_Mod_readTable.2.1 19 = .ok (.bipush 12, 2) := by decide +kernel
theorem d_Mod_readTable_21 : decode M_Mod_readTable.2.1 21 = .ok (.if_icmp .le 7, 3) := by decide +kernel
theorem d_Mod_readTable_24 : decode M_Mod_readTable.2.1 24 = .ok (.iconst 1, 1) := by decide +kernel
theorem d_Mod_readTable_25 : decode M_Mod_readTable.2.1 25 = .ok (.goto 4, 3) := by decide +kernel
theorem d_Mod_readTable_28 : decode M_Mod_readTable.2.1 28 = .ok (.iconst 0, 1) := by decide +kernel
theorem d_Mod_readTable_29 : decode M_Mod_readTable.2.1 29 = .ok (.bipush (-9), 2) := by decide +kernel
theorem d_Mod_readTable_31 : decode M_Mod_readTable.2.1 31 = .ok (.iload_n 2, 1) := by decide +kernel
theorem d_Mod_readTable_32 : decode M_Mod_readTable.2.1 32 = .ok (.invokevirtual 246, 3) := by decide +kernel
theorem d_Mod_readTable_35 : decode M_Mod_readTable.2.1 35 = .ok (.iconst 0, 1) := by decide +kernel
theorem d_Mod_readTable_36 : decode M_Mod_readTable.2.1 36 = .ok (.istore 4, 2) := by decide +kernel
theorem d_Mod_readTable_38 : decode M_Mod_readTable.2.1 38 = .ok (.iload 4, 2) := by decide +kernel
theorem d_Mod_readTable_40 : decode M_Mod_readTable.2.1 40 = .ok (.aload_n 0, 1) := by decide +kernel
theorem d_Mod_readTable_41 : decode M_Mod_readTable.2.1 41 = .ok (.getfield 108, 3) := by decide +kernel
theorem d_Mod_readTable_44 : decode M_Mod_readTable.2.1 44 = .ok (.iconst 2, 1) := by decide +kernel
theorem d_Mod_readTable_45 : decode M_Mod_readTable.2.1 45 = .ok (.iadd, 1) := by decide +kernel
theorem d_Mod_readTable_46 : decode M_Mod_readTable.2.1 46 = .ok (.if_icmp .ge 115, 3) := by decide +kernel
theorem d_Mod_readTable_49 : decode M_Mod_readTable.2.1 49 = .ok (.aload_n 0, 1) := by decide +kernel
theorem d_Mod_readTable_50 : decode M_Mod_readTable.2.1 50 = .ok (.getfield 231, 3) := by decide +kernel
theorem d_Mod_readTable_53 : decode M_Mod_readTable.2.1 53 = .ok (.ifCond .ne 108, 3) := by decide +kernel
theorem d_Mod_readTable_56 : decode M_Mod_readTable.2.1 56 = .ok (.iconst 1, 1) := by decide +kernel
theorem d_Mod_readTable_57 : decode M_Mod_readTable.2.1 57 = .ok (.istore 5, 2) := by decide +kernel
theorem d_Mod_readTable_59 : decode M_Mod_readTable.2.1 59 = .ok (.iload 5, 2) := by decide +kernel
theorem d_Mod_readTable_61 : decode M_Mod_readTable.2.1 61 = .ok (.ifCond .eq 80, 3) := by decide +kernel
theorem d_Mod_readTable_64 : decode M_Mod_readTable.2.1 64 = .ok (.aload_n 0, 1) := by decide +kernel
theorem d_Mod_readTable_65 : decode M_Mod_readTable.2.1 65 = .ok (.getfield 231, 3) := by decide +kernel
theorem d_Mod_readTable_68 : decode M_Mod_readTable.2.1 68 = .ok (.ifCond .ne 73, 3) := by decide +kernel
theorem d_Mod_readTable_71 : decode M_Mod_readTable.2.1 71 = .ok (.aload_n 0, 1) := by decide +kernel
theorem d_Mod_readTable_72 : decode M_Mod_readTable.2.1 72 = .ok (.getfield 237, 3) := by decide +kernel
theorem d_Mod_readTable_75 : decode M_Mod_readTable.2.1 75 = .ok (.istore_n 2, 1) := by decide +kernel
theorem d_Mod_readTable_76 : decode M_Mod_readTable.2.1 76 = .ok (.aload_n 0, 1) := by decide +kernel
theorem d_Mod_readTable_77 : decode M_Mod_readTable.2.1 77 = .ok (.iconst 1, 1) := by decide +kernel
theorem d_Mod_readTable_78 : decode M_Mod_readTable.2.1 78 = .ok (.iload_n 2, 1) := by decide +kernel
theorem d_Mod_readTable_79 : decode M_Mod_readTable.2.1 79 = .ok (.invokevirtual 243, 3) := by decide +kernel
theorem d_Mod_readTable_82 : decode M_Mod_readTable.2.1 82 = .ok (.iconst 1, 1) := by decide +kernel
theorem d_Mod_readTable_83 : decode M_Mod_readTable.2.1 83 = .ok (.if_icmp .ne 7, 3) := by decide +kernel
theorem d_Mod_readTable_86 : decode M_Mod_readTable.2.1 86 = .ok (.iconst 1, 1) := by decide +kernel
theorem d_Mod_readTable_87 : decode M_Mod_readTable.2.1 87 = .ok (.goto 4, 3) := by decide +kernel
theorem d_Mod_readTable_90 : decode M_Mod_readTable.2.1 90 = .ok (.iconst 0, 1) := by decide +kernel
theorem d_Mod_readTable_91 : decode M_Mod_readTable.2.1 91 = .ok (.istore 5, 2) := by decide +kernel
theorem d_Mod_readTable_93 : decode M_Mod_readTable.2.1 93 = .ok (.iload 5, 2) := by decide +kernel
theorem d_Mod_readTable_95 : decode M_Mod_readTable.2.1 95 = .ok (.ifCond .eq (-36), 3) := by decide +kernel
theorem d_Mod_readTable_98 : decode M_Mod_readTable.2.1 98 = .ok (.iload_n 3, 1) := by decide +kernel
theorem d_Mod_readTable_99 : decode M_Mod_readTable.2.1 99 = .ok (.aload_n 0, 1) := by decide +kernel
theorem d_Mod_readTable_100 : decode M_Mod_readTable.2.1 100 = .ok (.iconst 1, 1) := by decide +kernel
theorem d_Mod_readTable_101 : decode M_Mod_readTable.2.1 101 = .ok (.iload_n 2, 1) := by decide +kernel
theorem d_Mod_readTable_102 : decode M_Mod_readTable.2.1 102 = .ok (.invokevirtual 243, 3) := by decide +kernel
theorem d_Mod_readTable_105 : decode M_Mod_readTable.2.1 105 = .ok (.ifCond .ne 7, 3) := by decide +kernel
theorem d_Mod_readTable_108 : decode M_Mod_readTable.2.1 108 = .ok (.iconst 1, 1) := by decide +kernel
theorem d_Mod_readTable_109 : decode M_Mod_readTable.2.1 109 = .ok (.goto 4, 3) := by decide +kernel
theorem d_Mod_readTable_112 : decode M_Mod_readTable.2.1 112 = .ok (.iconst (-1), 1) := by decide +kernel
theorem d_Mod_readTable_113 : decode M_Mod_readTable.2.1 113 = .ok (.iadd, 1) := by decide +kernel
theorem d_Mod_readTable_114 : decode M_Mod_readTable.2.1 114 = .ok (.istore_n 3, 1) := by decide +kernel
theorem d_Mod_readTable_115 : decode M_Mod_readTable.2.1 115 = .ok (.aload_n 0, 1) := by decide +kernel
theorem d_Mod_readTable_116 : decode M_Mod_readTable.2.1 116 = .ok (.iload_n 3, 1) := by decide +kernel
theorem d_Mod_readTable_117 : decode M_Mod_readTable.2.1 117 = .ok (.iconst 1, 1) := by decide +kernel
theorem d_Mod_readTable_118 : decode M_Mod_readTable.2.1 118 = .ok (.if_icmp .lt 9, 3) := by decide +kernel
theorem d_Mod_readTable_121 : decode M_Mod_readTable.2.1 121 = .ok (.iload_n 3, 1) := by decide +kernel
theorem d_Mod_readTable_122 : decode M_Mod_readTable.2.1 122 = .ok (.bipush 12, 2) := by decide +kernel
theorem d_Mod_readTable_124 : decode M_Mod_readTable.2.1 124 = .ok (.if_icmp .le 7, 3) := by decide +kernel
theorem d_Mod_readTable_127 : decode M_Mod_readTable.2.1 127 = .ok (.iconst 1, 1) := by decide +kernel
theorem d_Mod_readTable_128 : decode M_Mod_readTable.2.1 128 = .ok (.goto 4, 3) := by decide +kernel
theorem d_Mod_readTable_131 : decode M_Mod_readTable.2.1 131 = .ok (.iconst 0, 1) := by decide +kernel
theorem d_Mod_readTable_132 : decode M_Mod_readTable.2.1 132 = .ok (.bipush (-9), 2) := by decide +kernel
theorem d_Mod_readTable_134 : decode M_Mod_readTable.2.1 134 = .ok (.iload_n 2, 1) := by decide +kernel
theorem d_Mod_readTable_135 : decode M_Mod_readTable.2.1 135 = .ok (.invokevirtual 246, 3) := by decide +kernel
theorem d_Mod_readTable_138 : decode M_Mod_readTable.2.1 138 = .ok (.goto (-79), 3) := by decide +kernel
theorem d_Mod_readTable_141 : decode M_Mod_readTable.2.1 141 = .ok (.aload_n 0, 1) := by decide +kernel
theorem d_Mod_readTable_142 : decode M_Mod_readTable.2.1 142 = .ok (.getfield 42, 3) := by decide +kernel
theorem d_Mod_readTable_145 : decode M_Mod_readTable.2.1 145 = .ok (.sipush 260, 3) := by decide +kernel
theorem d_Mod_readTable_148 : decode M_Mod_readTable.2.1 148 = .ok (.iload_n 1, 1) := by decide +kernel
theorem d_Mod_readTable_149 : decode M_Mod_readTable.2.1 149 = .ok (.imul, 1) := by decide +kernel
theorem d_Mod_readTable_150 : decode M_Mod_readTable.2.1 150 = .ok (.iload 4, 2) := by decide +kernel
theorem d_Mod_readTable_152 : decode M_Mod_readTable.2.1 152 = .ok (.iadd, 1) := by decide +kernel
theorem d_Mod_readTable_153 : decode M_Mod_readTable.2.1 153 = .ok (.iload_n 3, 1) := by decide +kernel
theorem d_Mod_readTable_154 : decode M_Mod_readTable.2.1 154 = .ok (.iastore, 1) := by decide +kernel
theorem d_Mod_readTable_155 : decode M_Mod_readTable.2.1 155 = .ok (.iinc 4 1, 3) := by decide +kernel
theorem d_Mod_readTable_158 : decode M_Mod_readTable.2.1 158 = .ok (.goto (-120), 3) := by decide +kernel
theorem d_Mod_readTable_161 : decode M_Mod_readTable.2.1 161 = .ok (.return_, 1) := by decide +kernel
theorem d_Mod_decode_0 : decode M_Mod_decode.2.1 0 = .ok (.iconst 0, 1) := by decide +kernel
theorem d_Mod_decode_1 : decode M_Mod_decode.2.1 1 = .ok (.istore 4, 2) := by decide +kernel
theorem d_Mod_decode_3 : decode M_Mod_decode.2.1 3 = .ok (.iload 4, 2) := by decide +kernel
theorem d_Mod_decode_5 : decode M_Mod_decode.2.1 5 = .ok (.aload_n 0, 1) := by decide +kernel
theorem d_Mod_decode_6 : decode M_Mod_decode.2.1 6 = .ok (.getfield 108, 3) := by decide +kernel
theorem d_Mod_decode_9 : decode M_Mod_decode.2.1 9 = .ok (.iconst 2, 1) := by decide +kernel
theorem d_Mod_decode_10 : decode M_Mod_decode.2.1 10 = .ok (.iadd, 1) := by decide +kernel
theorem d_Mod_decode_11 : decode M_Mod_decode.2.1 11 = .ok (.if_icmp .ge 46, 3) := by decide +kernel
theorem d_Mod_decode_14 : decode M_Mod_decode.2.1 14 = .ok (.aload_n 0, 1) := by decide +kernel
theorem d_Mod_decode_15 : decode M_Mod_decode.2.1 15 = .ok (.getfield 42, 3) := by decide +kernel
theorem d_Mod_decode_18 : decode M_Mod_decode.2.1 18 = .ok (.sipush 260, 3) := by decide +kernel
theorem d_Mod_decode_21 : decode M_Mod_decode.2.1 21 = .ok (.iload_n 1, 1) := by decide +kernel
theorem d_Mod_decode_22 : decode M_Mod_decode.2.1 22 = .ok (.imul, 1) := by decide +kernel
theorem d_Mod_decode_23 : decode M_Mod_decode.2.1 23 = .ok (.iload 4, 2) := by decide +kernel
theorem d_Mod_decode_25 : decode M_Mod_decode.2.1 25 = .ok (.iadd, 1) := by decide +kernel
theorem d_Mod_decode_26 : decode M_Mod_decode.2.1 26 = .ok (.iaload, 1) := by decide +kernel
theorem d_Mod_decode_27 : decode M_Mod_decode.2.1 27 = .ok (.iload_n 3, 1) := by decide +kernel
theorem d_Mod_decode_28 : decode M_Mod_decode.2.1 28 = .ok (.if_icmp .ne 23, 3) := by decide +kernel
theorem d_Mod_decode_31 : decode M_Mod_decode.2.1 31 = .ok (.aload_n 0, 1) := by decide +kernel
theorem d_Mod_decode_32 : decode M_Mod_decode.2.1 32 = .ok (.getfield 45, 3) := by decide +kernel
theorem d_Mod_decode_35 : decode M_Mod_decode.2.1 35 = .ok (.sipush 260, 3) := by decide +kernel
theorem d_Mod_decode_38 : decode M_Mod_decode.2.1 38 = .ok (.iload_n 1, 1) := by decide +kernel
theorem d_Mod_decode_39 : decode M_Mod_decode.2.1 39 = .ok (.imul, 1) := by decide +kernel
theorem d_Mod_decode_40 : decode M_Mod_decode.2.1 40 = .ok (.iload 4, 2) := by decide +kernel
theorem d_Mod_decode_42 : decode M_Mod_decode.2.1 42 = .ok (.iadd, 1) := by decide +kernel
theorem d_Mod_decode_43 : decode M_Mod_decode.2.1 43 = .ok (.iaload, 1) := by decide +kernel
theorem d_Mod_decode_44 : decode M_Mod_decode.2.1 44 = .ok (.iload_n 2, 1) := by decide +kernel
theorem d_Mod_decode_45 : decode M_Mod_decode.2.1 45 = .ok (.if_icmp .ne 6, 3) := by decide +kernel
theorem d_Mod_decode_48 : decode M_Mod_decode.2.1 48 = .ok (.iload 4, 2) := by decide +kernel
theorem d_Mod_decode_50 : decode M_Mod_decode.2.1 50 = .ok (.ireturn, 1) := by decide +kernel
theorem d_Mod_decode_51 : decode M_Mod_decode.2.1 51 = .ok (.iinc 4 1, 3) := by decide +kernel
theorem d_Mod_decode_54 : decode M_Mod_decode.2.1 54 = .ok (.goto (-51), 3) := by decide +kernel
theorem d_Mod_decode_57 : decode M_Mod_decode.2.1 57 = .ok (.iconst (-1), 1) := by decide +kernel
theorem d_Mod_decode_58 : decode M_Mod_decode.2.1 58 = .ok (.ireturn, 1) := by decide +kernel
theorem d_Mod_readSymbol_0 : decode M_Mod_readSymbol.2.1 0 = .ok (.aload_n 0, 1) := by decide +kernel
theorem d_Mod_readSymbol_1 : decode M_Mod_readSymbol.2.1 1 = .ok (.getfield 237, 3) := by decide +kernel
theorem d_Mod_readSymbol_4 : decode M_Mod_readSymbol.2.1 4 = .ok (.istore_n 2, 1) := by decide +kernel
theorem d_Mod_readSymbol_5 : decode M_Mod_readSymbol.2.1 5 = .ok (.iconst 0, 1) := by decide +kernel
theorem d_Mod_readSymbol_6 : decode M_Mod_readSymbol.2.1 6 = .ok (.istore_n 3, 1) := by decide +kernel
theorem d_Mod_readSymbol_7 : decode M_Mod_readSymbol.2.1 7 = .ok (.iconst 0, 1) := by decide +kernel
theorem d_Mod_readSymbol_8 : decode M_Mod_readSymbol.2.1 8 = .ok (.istore 4, 2) := by decide +kernel
theorem d_Mod_readSymbol_10 : decode M_Mod_readSymbol.2.1 10 = .ok (.iconst (-1), 1) := by decide +kernel
theorem d_Mod_readSymbol_11 : decode M_Mod_readSymbol.2.1 11 = .ok (.istore 5, 2) := by decide +kernel
theorem d_Mod_readSymbol_13 : decode M_Mod_readSymbol.2.1 13 = .ok (.iload 5, 2) := by decide +kernel
theorem d_Mod_readSymbol_15 : decode M_Mod_readSymbol.2.1 15 = .ok (.ifCond .ge 67, 3) := by decide +kernel
theorem d_Mod_readSymbol_18 : decode M_Mod_readSymbol.2.1 18 = .ok (.aload_n 0, 1) := by decide +kernel
theorem d_Mod_readSymbol_19 : decode M_Mod_readSymbol.2.1 19 = .ok (.getfield 231, 3) := by decide +kernel
theorem d_Mod_readSymbol_22 : decode M_Mod_readSymbol.2.1 22 = .ok (.ifCond .ne 60, 3) := by decide +kernel
theorem d_Mod_readSymbol_25 : decode M_Mod_readSymbol.2.1 25 = .ok (.aload_n 0, 1) := by decide +kernel
theorem d_Mod_readSymbol_26 : decode M_Mod_readSymbol.2.1 26 = .ok (.iload 4, 2) := by decide +kernel
theorem d_Mod_readSymbol_28 : decode M_Mod_readSymbol.2.1 28 = .ok (.bipush 12, 2) := by decide +kernel
theorem d_Mod_readSymbol_30 : decode M_Mod_readSymbol.2.1 30 = .ok (.if_icmp .ne 7, 3) := by decide +kernel
theorem d_Mod_readSymbol_33 : decode M_Mod_readSymbol.2.1 33 = .ok (.iconst 1, 1) := by decide +kernel
theorem d_Mod_readSymbol_34 : decode M_Mod_readSymbol.2.1 34 = .ok (.goto 4, 3) := by decide +kernel
theorem d_Mod_readSymbol_37 : decode M_Mod_readSymbol.2.1 37 = .ok (.iconst 0, 1) := by decide +kernel
theorem d_Mod_readSymbol_38 : decode M_Mod_readSymbol.2.1 38 = .ok (.bipush (-10), 2) := by decide +kernel
theorem d_Mod_readSymbol_40 : decode M_Mod_readSymbol.2.1 40 = .ok (.iload_n 2, 1) := by decide +kernel
theorem d_Mod_readSymbol_41 : decode M_Mod_readSymbol.2.1 41 = .ok (.invokevirtual 246, 3) := by decide +kernel
theorem d_Mod_readSymbol_44 : decode M_Mod_readSymbol.2.1 44 = .ok (.iconst 2, 1) := by decide +kernel
theorem d_Mod_readSymbol_45 : decode M_Mod_readSymbol.2.1 45 = .ok (.iload_n 3, 1) := by decide +kernel
theorem d_Mod_readSymbol_46 : decode M_Mod_readSymbol.2.1 46 = .ok (.imul, 1) := by decide +kernel
theorem d_Mod_readSymbol_47 : decode M_Mod_readSymbol.2.1 47 = .ok (.aload_n 0, 1) := by decide +kernel
theorem d_Mod_readSymbol_48 : decode M_Mod_readSymbol.2.1 48 = .ok (.iconst 1, 1) := by decide +kernel
theorem d_Mod_readSymbol_49 : decode M_Mod_readSymbol.2.1 49 = .ok (.iload_n 2, 1) := by decide +kernel
theorem d_Mod_readSymbol_50 : decode M_Mod_readSymbol.2.1 50 = .ok (.invokevirtual 243, 3) := by decide +kernel
theorem d_Mod_readSymbol_53 : decode M_Mod_readSymbol.2.1 53 = .ok (.iadd, 1) := by decide +kernel
theorem d_Mod_readSymbol_54 : decode M_Mod_readSymbol.2.1 54 = .ok (.istore_n 3, 1) := by decide +kernel
theorem d_Mod_readSymbol_55 : decode M_Mod_readSymbol.2.1 55 = .ok (.iinc 4 1, 3) := by decide +kernel
theorem d_Mod_readSymbol_58 : decode M_Mod_readSymbol.2.1 58 = .ok (.aload_n 0, 1) := by decide +kernel
theorem d_Mod_readSymbol_59 : decode M_Mod_readSymbol.2.1 59 = .ok (.getfield 231, 3) := by decide +kernel
theorem d_Mod_readSymbol_62 : decode M_Mod_readSymbol.2.1 62 = .ok (.ifCond .ne 14, 3) := by decide +kernel
theorem d_Mod_readSymbol_65 : decode M_Mod_readSymbol.2.1 65 = .ok (.aload_n 0, 1) := by decide +kernel
theorem d_Mod_readSymbol_66 : decode M_Mod_readSymbol.2.1 66 = .ok (.iload_n 1, 1) := by decide +kernel
theorem d_Mod_readSymbol_67 : decode M_Mod_readSymbol.2.1 67 = .ok (.iload_n 3, 1) := by decide +kernel
theorem d_Mod_readSymbol_68 : decode M_Mod_readSymbol.2.1 68 = .ok (.iload 4, 2) := by decide +kernel
theorem d_Mod_readSymbol_70 : decode M_Mod_readSymbol.2.1 70 = .ok (.invokevirtual 250, 3) := by decide +kernel
theorem d_Mod_readSymbol_73 : decode M_Mod_readSymbol.2.1 73 = .ok (.goto 4, 3) := by decide +kernel
theorem d_Mod_readSymbol_76 : decode M_Mod_readSymbol.2.1 76 = .ok (.iconst (-1), 1) := by decide +kernel
theorem d_Mod_readSymbol_77 : decode M_Mod_readSymbol.2.1 77 = .ok (.istore 5, 2) := by decide +kernel
theorem d_Mod_readSymbol_79 : decode M_Mod_readSymbol.2.1 79 = .ok (.goto (-66), 3) := by decide +kernel
theorem d_Mod_readSymbol_82 : decode M_Mod_readSymbol.2.1 82 = .ok (.iload 5, 2) := by decide +kernel
theorem d_Mod_readSymbol_84 : decode M_Mod_readSymbol.2.1 84 = .ok (.ireturn, 1) := by decide +kernel
theorem d_Mod_addColumn_0 : decode M_Mod_addColumn.2.1 0 = .ok (.iconst 0, 1) := by decide +kernel
theorem d_Mod_addColumn_1 : decode M_Mod_addColumn.2.1 1 = .ok (.istore_n 3, 1) := by decide +kernel
theorem d_Mod_addColumn_2 : decode M_Mod_addColumn.2.1 2 = .ok (.iload_n 3, 1) := by decide +kernel
theorem d_Mod_addColumn_3 : decode M_Mod_addColumn.2.1 3 = .ok (.iload_n 2, 1) := by decide +kernel
theorem d_Mod_addColumn_4 : decode M_Mod_addColumn.2.1 4 = .ok (.if_icmp .ge 29, 3) := by decide +kernel
theorem d_Mod_addColumn_7 : decode M_Mod_addColumn.2.1 7 = .ok (.aload_n 0, 1) := by decide +kernel
theorem d_Mod_addColumn_8 : decode M_Mod_addColumn.2.1 8 = .ok (.getfield 29, 3) := by decide +kernel
theorem d_Mod_addColumn_11 : decode M_Mod_addColumn.2.1 11 = .ok (.aload_n 0, 1) := by decide +kernel
theorem d_Mod_addColumn_12 : decode M_Mod_addColumn.2.1 12 = .ok (.getfield 98, 3) := by decide +kernel
theorem d_Mod_addColumn_15 : decode M_Mod_addColumn.2.1 15 = .ok (.iload_n 1, 1) := by decide +kernel
theorem d_Mod_addColumn_16 : decode M_Mod_addColumn.2.1 16 = .ok (.iastore, 1) := by decide +kernel
theorem d_Mod_addColumn_17 : decode M_Mod_addColumn.2.1 17 = .ok (.aload_n 0, 1) := by decide +kernel
theorem d_Mod_addColumn_18 : decode M_Mod_addColumn.2.1 18 = .ok (.dup, 1) := by decide +kernel
theorem d_Mod_addColumn_19 : decode M_Mod_addColumn.2.1 19 = .ok (.getfield 98, 3) := by decide +kernel
theorem d_Mod_addColumn_22 : decode M_Mod_addColumn.2.1 22 = .ok (.iconst 1, 1) := by decide +kernel
theorem d_Mod_addColumn_23 : decode M_Mod_addColumn.2.1 23 = .ok (.iadd, 1) := by decide +kernel
theorem d_Mod_addColumn_24 : decode M_Mod_addColumn.2.1 24 = .ok (.putfield 98, 3) := by decide +kernel
theorem d_Mod_addColumn_27 : decode M_Mod_addColumn.2.1 27 = .ok (.iinc 3 1, 3) := by decide +kernel
theorem d_Mod_addColumn_30 : decode M_Mod_addColumn.2.1 30 = .ok (.goto (-28), 3) := by decide +kernel
theorem d_Mod_addColumn_33 : decode M_Mod_addColumn.2.1 33 = .ok (.return_, 1) := by decide +kernel
theorem d_Mod_readSymbols_0 : decode M_Mod_readSymbols.2.1 0 = .ok (.aload_n 0, 1) := by decide +kernel
theorem d_Mod_readSymbols_1 : decode M_Mod_readSymbols.2.1 1 = .ok (.iconst 0, 1) := by decide +kernel
theorem d_Mod_readSymbols_2 : decode M_Mod_readSymbols.2.1 2 = .ok (.putfield 111, 3) := by decide +kernel
theorem d_Mod_readSymbols_5 : decode M_Mod_readSymbols.2.1 5 = .ok (.aload_n 0, 1) := by decide +kernel
theorem d_Mod_readSymbols_6 : decode M_Mod_readSymbols.2.1 6 = .ok (.iconst 0, 1) := by decide +kernel
theorem d_Mod_readSymbols_7 : decode M_Mod_readSymbols.2.1 7 = .ok (.putfield 98, 3) := by decide +kernel
theorem d_Mod_readSymbols_10 : decode M_Mod_readSymbols.2.1 10 = .ok (.iconst 0, 1) := by decide +kernel
theorem d_Mod_readSymbols_11 : decode M_Mod_readSymbols.2.1 11 = .ok (.istore_n 2, 1) := by decide +kernel
theorem d_Mod_readSymbols_12 : decode M_Mod_readSymbols.2.1 12 = .ok (.iconst 1, 1) := by decide +kernel
theorem d_Mod_readSymbols_13 : decode M_Mod_readSymbols.2.1 13 = .ok (.istore_n 3, 1) := by decide +kernel
theorem d_Mod_readSymbols_14 : decode M_Mod_readSymbols.2.1 14 = .ok (.aload_n 0, 1) := by decide +kernel
theorem d_Mod_readSymbols_15 : decode M_Mod_readSymbols.2.1 15 = .ok (.getfield 237, 3) := by decide +kernel
theorem d_Mod_readSymbols_18 : decode M_Mod_readSymbols.2.1 18 = .ok (.istore 4, 2) := by decide +kernel
theorem d_Mod_readSymbols_20 : decode M_Mod_readSymbols.2.1 20 = .ok (.iconst 1, 1) := by decide +kernel
theorem d_Mod_readSymbols_21 : decode M_Mod_readSymbols.2.1 21 = .ok (.istore 5, 2) := by decide +kernel
theorem d_Mod_readSymbols_23 : decode M_Mod_readSymbols.2.1 23 = .ok (.iload 5, 2) := by decide +kernel
theorem d_Mod_readSymbols_25 : decode M_Mod_readSymbols.2.1 25 = .ok (.ifCond .eq 217, 3) := by decide +kernel
theorem d_Mod_readSymbols_28 : decode M_Mod_readSymbols.2.1 28 = .ok (.aload_n 0, 1) := by decide +kernel
theorem d_Mod_readSymbols_29 : decode M_Mod_readSymbols.2.1 29 = .ok (.getfield 231, 3) := by decide +kernel
theorem d_Mod_readSymbols_32 : decode M_Mod_readSymbols.2.1 32 = .ok (.ifCond .ne 210, 3) := by decide +kernel
theorem d_Mod_readSymbols_35 : decode M_Mod_readSymbols.2.1 35 = .ok (.aload_n 0, 1) := by decide +kernel
theorem d_Mod_readSymbols_36 : decode M_Mod_readSymbols.2.1 36 = .ok (.getfield 237, 3) := by decide +kernel
theorem d_Mod_readSymbols_39 : decode M_Mod_readSymbols.2.1 39 = .ok (.istore 4, 2) := by decide +kernel
theorem d_Mod_readSymbols_41 : decode M_Mod_readSymbols.2.1 41 = .ok (.aload_n 0, 1) := by decide +kernel
theorem d_Mod_readSymbols_42 : decode M_Mod_readSymbols.2.1 42 = .ok (.aload_n 0, 1) := by decide +kernel
theorem d_Mod_readSymbols_43 : decode M_Mod_readSymbols.2.1 43 = .ok (.getfield 111, 3) := by decide +kernel
theorem d_Mod_readSymbols_46 : decode M_Mod_readSymbols.2.1 46 = .ok (.bipush 8, 2) := by decide +kernel
theorem d_Mod_readSymbols_48 : decode M_Mod_readSymbols.2.1 48 = .ok (.aload_n 0, 1) := by decide +kernel
theorem d_Mod_readSymbols_49 : decode M_Mod_readSymbols.2.1 49 = .ok (.getfield 131, 3) := by decide +kernel
theorem d_Mod_readSymbols_52 : decode M_Mod_readSymbols.2.1 52 = .ok (.imul, 1) := by decide +kernel
theorem d_Mod_readSymbols_53 : decode M_Mod_readSymbols.2.1 53 = .ok (.if_icmp .ne 7, 3) := by decide +kernel
theorem d_Mod_readSymbols_56 : decode M_Mod_readSymbols.2.1 56 = .ok (.iconst 1, 1) := by decide +kernel
theorem d_Mod_readSymbols_57 : decode M_Mod_readSymbols.2.1 57 = .ok (.goto 4, 3) := by decide +kernel
theorem d_Mod_readSymbols_60 : decode M_Mod_readSymbols.2.1 60 = .ok (.iconst 0, 1) := by decide +kernel
theorem d_Mod_readSymbols_61 : decode M_Mod_readSymbols.2.1 61 = .ok (.bipush (-11), 2) := by decide +kernel
theorem d_Mod_readSymbols_63 : decode M_Mod_readSymbols.2.1 63 = .ok (.iload 4, 2) := by decide +kernel
theorem d_Mod_readSymbols_65 : decode M_Mod_readSymbols.2.1 65 = .ok (.invokevirtual 246, 3) := by decide +kernel
theorem d_Mod_readSymbols_68 : decode M_Mod_readSymbols.2.1 68 = .ok (.aload_n 0, 1) := by decide +kernel
theorem d_Mod_readSymbols_69 : decode M_Mod_readSymbols.2.1 69 = .ok (.getfield 231, 3) := by decide +kernel
theorem d_Mod_readSymbols_72 : decode M_Mod_readSymbols.2.1 72 = .ok (.ifCond .ne 22, 3) := by decide +kernel
theorem d_Mod_readSymbols_75 : decode M_Mod_readSymbols.2.1 75 = .ok (.aload_n 0, 1) := by decide +kernel
theorem d_Mod_readSymbols_76 : decode M_Mod_readSymbols.2.1 76 = .ok (.aload_n 0, 1) := by decide +kernel
theorem d_Mod_readSymbols_77 : decode M_Mod_readSymbols.2.1 77 = .ok (.getfield 48, 3) := by decide +kernel
theorem d_Mod_readSymbols_80 : decode M_Mod_readSymbols.2.1 80 = .ok (.aload_n 0, 1) := by decide +kernel
theorem d_Mod_readSymbols_81 : decode M_Mod_readSymbols.2.1 81 = .ok (.getfield 111, 3) := by decide +kernel
theorem d_Mod_readSymbols_84 : decode M_Mod_readSymbols.2.1 84 = .ok (.bipush 8, 2) := by decide +kernel
theorem d_Mod_readSymbols_86 : decode M_Mod_readSymbols.2.1 86 = .ok (.idiv, 1) := by decide +kernel
theorem d_Mod_readSymbols_87 : decode M_Mod_readSymbols.2.1 87 = .ok (.iaload, 1) := by decide +kernel
theorem d_Mod_readSymbols_88 : decode M_Mod_readSymbols.2.1 88 = .ok (.invokevirtual 254, 3) := by decide +kernel
theorem d_Mod_readSymbols_91 : decode M_Mod_readSymbols.2.1 91 = .ok (.goto 4, 3) := by decide +kernel
theorem d_Mod_readSymbols_94 : decode M_Mod_readSymbols.2.1 94 = .ok (.iconst (-1), 1) := by decide +kernel
theorem d_Mod_readSymbols_95 : decode M_Mod_readSymbols.2.1 95 = .ok (.istore 6, 2) := by decide +kernel
theorem d_Mod_readSymbols_97 : decode M_Mod_readSymbols.2.1 97 = .ok (.aload_n 0, 1) := by decide +kernel
theorem d_Mod_readSymbols_98 : decode M_Mod_readSymbols.2.1 98 = .ok (.getfield 231, 3) := by decide +kernel
theorem d_Mod_readSymbols_101 : decode M_Mod_readSymbols.2.1 101 = .ok (.ifCond .ne 138, 3) := by decide +kernel
theorem d_Mod_readSymbols_104 : decode M_Mod_readSymbols.2.1 104 = .ok (.aload_n 0, 1) := by decide +kernel
theorem d_Mod_readSymbols_105 : decode M_Mod_readSymbols.2.1 105 = .ok (.iload 6, 2) := by decide +kernel
theorem d_Mod_readSymbols_107 : decode M_Mod_readSymbols.2.1 107 = .ok (.invokevirtual 114, 3) := by decide +kernel
theorem d_Mod_readSymbols_110 : decode M_Mod_readSymbols.2.1 110 = .ok (.iload 6, 2) := by decide +kernel
theorem d_Mod_readSymbols_112 : decode M_Mod_readSymbols.2.1 112 = .ok (.iconst 2, 1) := by decide +kernel
theorem d_Mod_readSymbols_113 : decode M_Mod_readSymbols.2.1 113 = .ok (.if_icmp .ge 42, 3) := by decide +kernel
theorem d_Mod_readSymbols_116 : decode M_Mod_readSymbols.2.1 116 = .ok (.iload_n 2, 1) := by decide +kernel
theorem d_Mod_readSymbols_117 : decode M_Mod_readSymbols.2.1 117 = .ok (.iload_n 3, 1) := by decide +kernel
theorem d_Mod_readSymbols_118 : decode M_Mod_readSymbols.2.1 118 = .ok (.iload 6, 2) := by decide +kernel
theorem d_Mod_readSymbols_120 : decode M_Mod_readSymbols.2.1 120 = .ok (.iconst 1, 1) := by decide +kernel
theorem d_Mod_readSymbols_121 : decode M_Mod_readSymbols.2.1 121 = .ok (.iadd, 1) := by decide +kernel
theorem d_Mod_readSymbols_122 : decode M_Mod_readSymbols.2.1 122 = .ok (.imul, 1) := by decide +kernel
theorem d_Mod_readSymbols_123 : decode M_Mod_readSymbols.2.1 123 = .ok (.iadd, 1) := by decide +kernel
theorem d_Mod_readSymbols_124 : decode M_Mod_readSymbols.2.1 124 = .ok (.istore_n 2, 1) := by decide +kernel
theorem d_Mod_readSymbols_125 : decode M_Mod_readSymbols.2.1 125 = .ok (.iconst 2, 1) := by decide +kernel
theorem d_Mod_readSymbols_126 : decode M_Mod_readSymbols.2.1 126 = .ok (.iload_n 3, 1) := by decide +kernel
theorem d_Mod_readSymbols_127 : decode M_Mod_readSymbols.2.1 127 = .ok (.imul, 1) := by decide +kernel
theorem d_Mod_readSymbols_128 : decode M_Mod_readSymbols.2.1 128 = .ok (.istore_n 3, 1) := by decide +kernel
theorem d_Mod_readSymbols_129 : decode M_Mod_readSymbols.2.1 129 = .ok (.aload_n 0, 1) := by decide +kernel
theorem d_Mod_readSymbols_130 : decode M_Mod_readSymbols.2.1 130 = .ok (.aload_n 0, 1) := by decide +kernel
theorem d_Mod_readSymbols_131 : decode M_Mod_readSymbols.2.1 131 = .ok (.getfield 98, 3) := by decide +kernel
theorem d_Mod_readSymbols_134 : decode M_Mod_readSymbols.2.1 134 = .ok (.iload_n 2, 1) := by decide +kernel
theorem d_Mod_readSymbols_135 : decode M_Mod_readSymbols.2.1 135 = .ok (.iadd, 1) := by decide +kernel
theorem d_Mod_readSymbols_136 : decode M_Mod_readSymbols.2.1 136 = .ok (.iload_n 1, 1) := by decide +kernel
theorem d_Mod_readSymbols_137 : decode M_Mod_readSymbols.2.1 137 = .ok (.if_icmp .le 7, 3) := by decide +kernel
theorem d_Mod_readSymbols_140 : decode M_Mod_readSymbols.2.1 140 = .ok (.iconst 1, 1) := by decide +kernel
theorem d_Mod_readSymbols_141 : decode M_Mod_readSymbols.2.1 141 = .ok (.goto 4, 3) := by decide +kernel
theorem d_Mod_readSymbols_144 : decode M_Mod_readSymbols.2.1 144 = .ok (.iconst 0, 1) := by decide +kernel
theorem d_Mod_readSymbols_145 : decode M_Mod_readSymbols.2.1 145 = .ok (.bipush (-11), 2) := by decide +kernel
theorem d_Mod_readSymbols_147 : decode M_Mod_readSymbols.2.1 147 = .ok (.iload 4, 2) := by decide +kernel
theorem d_Mod_readSymbols_149 : decode M_Mod_readSymbols.2.1 149 = .ok (.invokevirtual 246, 3) := by decide +kernel
theorem d_Mod_readSymbols_152 : decode M_Mod_readSymbols.2.1 152 = .ok (.goto 87, 3) := by decide +kernel
theorem d_Mod_readSymbols_155 : decode M_Mod_readSymbols.2.1 155 = .ok (.aload_n 0, 1) := by decide +kernel
theorem d_Mod_readSymbols_156 : decode M_Mod_readSymbols.2.1 156 = .ok (.aload_n 0, 1) := by decide +kernel
theorem d_Mod_readSymbols_157 : decode M_Mod_readSymbols.2.1 157 = .ok (.getfield 39, 3) := by decide +kernel
theorem d_Mod_readSymbols_160 : decode M_Mod_readSymbols.2.1 160 = .ok (.iconst 0, 1) := by decide +kernel
theorem d_Mod_readSymbols_161 : decode M_Mod_readSymbols.2.1 161 = .ok (.iaload, 1) := by decide +kernel
theorem d_Mod_readSymbols_162 : decode M_Mod_readSymbols.2.1 162 = .ok (.iload_n 2, 1) := by decide +kernel
theorem d_Mod_readSymbols_163 : decode M_Mod_readSymbols.2.1 163 = .ok (.invokevirtual 257, 3) := by decide +kernel
theorem d_Mod_readSymbols_166 : decode M_Mod_readSymbols.2.1 166 = .ok (.iconst 0, 1) := by decide +kernel
theorem d_Mod_readSymbols_167 : decode M_Mod_readSymbols.2.1 167 = .ok (.istore_n 2, 1) := by decide +kernel
theorem d_Mod_readSymbols_168 : decode M_Mod_readSymbols.2.1 168 = .ok (.iconst 1, 1) := by decide +kernel
theorem d_Mod_readSymbols_169 : decode M_Mod_readSymbols.2.1 169 = .ok (.istore_n 3, 1) := by decide +kernel
theorem d_Mod_readSymbols_170 : decode M_Mod_readSymbols.2.1 170 = .ok (.iload 6, 2) := by decide +kernel
theorem d_Mod_readSymbols_172 : decode M_Mod_readSymbols.2.1 172 = .ok (.aload_n 0, 1) := by decide +kernel
theorem d_Mod_readSymbols_173 : decode M_Mod_readSymbols.2.1 173 = .ok (.getfield 108, 3) := by decide +kernel
theorem d_Mod_readSymbols_176 : decode M_Mod_readSymbols.2.1 176 = .ok (.iconst 1, 1) := by decide +kernel
theorem d_Mod_readSymbols_177 : decode M_Mod_readSymbols.2.1 177 = .ok (.iadd, 1) := by decide +kernel
theorem d_Mod_readSymbols_178 : decode M_Mod_readSymbols.2.1 178 = .ok (.if_icmp .eq 7, 3) := by decide +kernel
theorem d_Mod_readSymbols_181 : decode M_Mod_readSymbols.2.1 181 = .ok (.iconst 1, 1) := by decide +kernel
theorem d_Mod_readSymbols_182 : decode M_Mod_readSymbols.2.1 182 = .ok (.goto 4, 3) := by decide +kernel
theorem d_Mod_readSymbols_185 : decode M_Mod_readSymbols.2.1 185 = .ok (.iconst 0, 1) := by decide +kernel
theorem d_Mod_readSymbols_186 : decode M_Mod_readSymbols.2.1 186 = .ok (.istore 5, 2) := by decide +kernel
theorem d_Mod_readSymbols_188 : decode M_Mod_readSymbols.2.1 188 = .ok (.aload_n 0, 1) := by decide +kernel
theorem d_Mod_readSymbols_189 : decode M_Mod_readSymbols.2.1 189 = .ok (.iload 5, 2) := by decide +kernel
theorem d_Mod_readSymbols_191 : decode M_Mod_readSymbols.2.1 191 = .ok (.ifCond .eq 15, 3) := by decide +kernel
theorem d_Mod_readSymbols_194 : decode M_Mod_readSymbols.2.1 194 = .ok (.aload_n 0, 1) := by decide +kernel
theorem d_Mod_readSymbols_195 : decode M_Mod_readSymbols.2.1 195 = .ok (.getfield 98, 3) := by decide +kernel
theorem d_Mod_readSymbols_198 : decode M_Mod_readSymbols.2.1 198 = .ok (.iload_n 1, 1) := by decide +kernel
theorem d_Mod_readSymbols_199 : decode M_Mod_readSymbols.2.1 199 = .ok (.if_icmp .ne 7, 3) := by decide +kernel
theorem d_Mod_readSymbols_202 : decode M_Mod_readSymbols.2.1 202 = .ok (.iconst 1, 1) := by decide +kernel
theorem d_Mod_readSymbols_203 : decode M_Mod_readSymbols.2.1 203 = .ok (.goto 4, 3) := by decide +kernel
theorem d_Mod_readSymbols_206 : decode M_Mod_readSymbols.2.1 206 = .ok (.iconst 0, 1) := by decide +kernel
theorem d_Mod_readSymbols_207 : decode M_Mod_readSymbols.2.1 207 = .ok (.bipush (-11), 2) := by decide +kernel
theorem d_Mod_readSymbols_209 : decode M_Mod_readSymbols.2.1 209 = .ok (.iload 4, 2) := by decide +kernel
theorem d_Mod_readSymbols_211 : decode M_Mod_readSymbols.2.1 211 = .ok (.invokevirtual 246, 3) := by decide +kernel
theorem d_Mod_readSymbols_214 : decode M_Mod_readSymbols.2.1 214 = .ok (.iload 5, 2) := by decide +kernel
theorem d_Mod_readSymbols_216 : decode M_Mod_readSymbols.2.1 216 = .ok (.ifCond .eq 23, 3) := by decide +kernel
theorem d_Mod_readSymbols_219 : decode M_Mod_readSymbols.2.1 219 = .ok (.aload_n 0, 1) := by decide +kernel
theorem d_Mod_readSymbols_220 : decode M_Mod_readSymbols.2.1 220 = .ok (.getfield 231, 3) := by decide +kernel
theorem d_Mod_readSymbols_223 : decode M_Mod_readSymbols.2.1 223 = .ok (.ifCond .ne 16, 3) := by decide +kernel
theorem d_Mod_readSymbols_226 : decode M_Mod_readSymbols.2.1 226 = .ok (.aload_n 0, 1) := by decide +kernel
theorem d_Mod_readSymbols_227 : decode M_Mod_readSymbols.2.1 227 = .ok (.aload_n 0, 1) := by decide +kernel
theorem d_Mod_readSymbols_228 : decode M_Mod_readSymbols.2.1 228 = .ok (.iload 6, 2) := by decide +kernel
theorem d_Mod_readSymbols_230 : decode M_Mod_readSymbols.2.1 230 = .ok (.iconst 1, 1) := by decide +kernel
theorem d_Mod_readSymbols_231 : decode M_Mod_readSymbols.2.1 231 = .ok (.isub, 1) := by decide +kernel
theorem d_Mod_readSymbols_232 : decode M_Mod_readSymbols.2.1 232 = .ok (.invokevirtual 121, 3) := by decide +kernel
theorem d_Mod_readSymbols_235 : decode M_Mod_readSymbols.2.1 235 = .ok (.iconst 1, 1) := by decide +kernel
theorem d_Mod_readSymbols_236 : decode M_Mod_readSymbols.2.1 236 = .ok (.invokevirtual 257, 3) := by decide +kernel
theorem d_Mod_readSymbols_239 : decode M_Mod_readSymbols.2.1 239 = .ok (.goto (-216), 3) := by decide +kernel
theorem d_Mod_readSymbols_242 : decode M_Mod_readSymbols.2.1 242 = .ok (.iload 4, 2) := by decide +kernel
theorem d_Mod_readSymbols_244 : decode M_Mod_readSymbols.2.1 244 = .ok (.ireturn, 1) := by decide +kernel
theorem d_Mod_readBlock_0 : decode M_Mod_readBlock.2.1 0 = .ok (.aload_n 0, 1) := by decide +kernel
theorem d_Mod_readBlock_1 : decode M_Mod_readBlock.2.1 1 = .ok (.aload_n 0, 1) := by decide +kernel
theorem d_Mod_readBlock_2 : decode M_Mod_readBlock.2.1 2 = .ok (.getfield 237, 3) := by decide +kernel
theorem d_Mod_readBlock_5 : decode M_Mod_readBlock.2.1 5 = .ok (.putfield 260, 3) := by decide +kernel
theorem d_Mod_readBlock_8 : decode M_Mod_readBlock.2.1 8 = .ok (.aload_n 0, 1) := by decide +kernel
theorem d_Mod_readBlock_9 : decode M_Mod_readBlock.2.1 9 = .ok (.aload_n 0, 1) := by decide +kernel
theorem d_Mod_readBlock_10 : decode M_Mod_readBlock.2.1 10 = .ok (.bipush 16, 2) := by decide +kernel
theorem d_Mod_readBlock_12 : decode M_Mod_readBlock.2.1 12 = .ok (.aload_n 0, 1) := by decide +kernel
theorem d_Mod_readBlock_13 : decode M_Mod_readBlock.2.1 13 = .ok (.getfield 260, 3) := by decide +kernel
theorem d_Mod_readBlock_16 : decode M_Mod_readBlock.2.1 16 = .ok (.invokevirtual 243, 3) := by decide +kernel
theorem d_Mod_readBlock_19 : decode M_Mod_readBlock.2.1 19 = .ok (.putfield 163, 3) := by decide +kernel
theorem d_Mod_readBlock_22 : decode M_Mod_readBlock.2.1 22 = .ok (.aload_n 0, 1) := by decide +kernel
theorem d_Mod_readBlock_23 : decode M_Mod_readBlock.2.1 23 = .ok (.aload_n 0, 1) := by decide +kernel
theorem d_Mod_readBlock_24 : decode M_Mod_readBlock.2.1 24 = .ok (.bipush 6, 2) := by decide +kernel
theorem d_Mod_readBlock_26 : decode M_Mod_readBlock.2.1 26 = .ok (.aload_n 0, 1) := by decide +kernel
theorem d_Mod_readBlock_27 : decode M_Mod_readBlock.2.1 27 = .ok (.getfield 237, 3) := by decide +kernel
theorem d_Mod_readBlock_30 : decode M_Mod_readBlock.2.1 30 = .ok (.invokevirtual 243, 3) := by decide +kernel
theorem d_Mod_readBlock_33 : decode M_Mod_readBlock.2.1 33 = .ok (.putfield 105, 3) := by decide +kernel
theorem d_Mod_readBlock_36 : decode M_Mod_readBlock.2.1 36 = .ok (.aload_n 0, 1) := by decide +kernel
theorem d_Mod_readBlock_37 : decode M_Mod_readBlock.2.1 37 = .ok (.getfield 231, 3) := by decide +kernel
theorem d_Mod_readBlock_40 : decode M_Mod_readBlock.2.1 40 = .ok (.ifCond .ne 7, 3) := by decide +kernel
theorem d_Mod_readBlock_43 : decode M_Mod_readBlock.2.1 43 = .ok (.aload_n 0, 1) := by decide +kernel
theorem d_Mod_readBlock_44 : decode M_Mod_readBlock.2.1 44 = .ok (.invokevirtual 263, 3) := by decide +kernel
theorem d_Mod_readBlock_47 : decode M_Mod_readBlock.2.1 47 = .ok (.aload_n 0, 1) := by decide +kernel
theorem d_Mod_readBlock_48 : decode M_Mod_readBlock.2.1 48 = .ok (.getfield 237, 3) := by decide +kernel
theorem d_Mod_readBlock_51 : decode M_Mod_readBlock.2.1 51 = .ok (.istore_n 2, 1) := by decide +kernel
theorem d_Mod_readBlock_52 : decode M_Mod_readBlock.2.1 52 = .ok (.aload_n 0, 1) := by decide +kernel
theorem d_Mod_readBlock_53 : decode M_Mod_readBlock.2.1 53 = .ok (.aload_n 0, 1) := by decide +kernel
theorem d_Mod_readBlock_54 : decode M_Mod_readBlock.2.1 54 = .ok (.getfield 231, 3) := by decide +kernel
theorem d_Mod_readBlock_57 : decode M_Mod_readBlock.2.1 57 = .ok (.ifCond .ne 12, 3) := by decide +kernel
theorem d_Mod_readBlock_60 : decode M_Mod_readBlock.2.1 60 = .ok (.aload_n 0, 1) := by decide +kernel
theorem d_Mod_readBlock_61 : decode M_Mod_readBlock.2.1 61 = .ok (.iconst 3, 1) := by decide +kernel
theorem d_Mod_readBlock_62 : decode M_Mod_readBlock.2.1 62 = .ok (.iload_n 2, 1) := by decide +kernel
theorem d_Mod_readBlock_63 : decode M_Mod_readBlock.2.1 63 = .ok (.invokevirtual 243, 3) := by decide +kernel
theorem d_Mod_readBlock_66 : decode M_Mod_readBlock.2.1 66 = .ok (.goto 4, 3) := by decide +kernel
theorem d_Mod_readBlock_69 : decode M_Mod_readBlock.2.1 69 = .ok (.iconst 1, 1) := by decide +kernel
theorem d_Mod_readBlock_70 : decode M_Mod_readBlock.2.1 70 = .ok (.putfield 134, 3) := by decide +kernel
theorem d_Mod_readBlock_73 : decode M_Mod_readBlock.2.1 73 = .ok (.aload_n 0, 1) := by decide +kernel
theorem d_Mod_readBlock_74 : decode M_Mod_readBlock.2.1 74 = .ok (.aload_n 0, 1) := by decide +kernel
theorem d_Mod_readBlock_75 : decode M_Mod_readBlock.2.1 75 = .ok (.getfield 134, 3) := by decide +kernel
theorem d_Mod_readBlock_78 : decode M_Mod_readBlock.2.1 78 = .ok (.iconst 1, 1) := by decide +kernel
theorem d_Mod_readBlock_79 : decode M_Mod_readBlock.2.1 79 = .ok (.if_icmp .lt 11, 3) := by decide +kernel
theorem d_Mod_readBlock_82 : decode M_Mod_readBlock.2.1 82 = .ok (.aload_n 0, 1) := by decide +kernel
theorem d_Mod_readBlock_83 : decode M_Mod_readBlock.2.1 83 = .ok (.getfield 134, 3) := by decide +kernel
theorem d_Mod_readBlock_86 : decode M_Mod_readBlock.2.1 86 = .ok (.iconst 4, 1) := by decide +kernel
theorem d_Mod_readBlock_87 : decode M_Mod_readBlock.2.1 87 = .ok (.if_icmp .le 7, 3) := by decide +kernel
theorem d_Mod_readBlock_90 : decode M_Mod_readBlock.2.1 90 = .ok (.iconst 1, 1) := by decide +kernel
theorem d_Mod_readBlock_91 : decode M_Mod_readBlock.2.1 91 = .ok (.goto 4, 3) := by decide +kernel
theorem d_Mod_readBlock_94 : decode M_Mod_readBlock.2.1 94 = .ok (.iconst 0, 1) := by decide +kernel
theorem d_Mod_readBlock_95 : decode M_Mod_readBlock.2.1 95 = .ok (.bipush (-6), 2) := by decide +kernel
theorem d_Mod_readBlock_97 : decode M_Mod_readBlock.2.1 97 = .ok (.iload_n 2, 1) := by decide +kernel
theorem d_Mod_readBlock_98 : decode M_Mod_readBlock.2.1 98 = .ok (.invokevirtual 246, 3) := by decide +kernel
theorem d_Mod_readBlock_101 : decode M_Mod_readBlock.2.1 101 = .ok (.aload_n 0, 1) := by decide +kernel
theorem d_Mod_readBlock_102 : decode M_Mod_readBlock.2.1 102 = .ok (.getfield 237, 3) := by decide +kernel
theorem d_Mod_readBlock_105 : decode M_Mod_readBlock.2.1 105 = .ok (.istore_n 2, 1) := by decide +kernel
theorem d_Mod_readBlock_106 : decode M_Mod_readBlock.2.1 106 = .ok (.aload_n 0, 1) := by decide +kernel
theorem d_Mod_readBlock_107 : decode M_Mod_readBlock.2.1 107 = .ok (.aload_n 0, 1) := by decide +kernel
theorem d_Mod_readBlock_108 : decode M_Mod_readBlock.2.1 108 = .ok (.getfield 231, 3) := by decide +kernel
theorem d_Mod_readBlock_111 : decode M_Mod_readBlock.2.1 111 = .ok (.ifCond .ne 13, 3) := by decide +kernel
theorem d_Mod_readBlock_114 : decode M_Mod_readBlock.2.1 114 = .ok (.aload_n 0, 1) := by decide +kernel
theorem d_Mod_readBlock_115 : decode M_Mod_readBlock.2.1 115 = .ok (.bipush 6, 2) := by decide +kernel
theorem d_Mod_readBlock_117 : decode M_Mod_readBlock.2.1 117 = .ok (.iload_n 2, 1) := by decide +kernel
theorem d_Mod_readBlock_118 : decode M_Mod_readBlock.2.1 118 = .ok (.invokevirtual 243, 3) := by decide +kernel
theorem d_Mod_readBlock_121 : decode M_Mod_readBlock.2.1 121 = .ok (.goto 4, 3) := by decide +kernel
theorem d_Mod_readBlock_124 : decode M_Mod_readBlock.2.1 124 = .ok (.iconst 1, 1) := by decide +kernel
theorem d_Mod_readBlock_125 : decode M_Mod_readBlock.2.1 125 = .ok (.putfield 131, 3) := by decide +kernel
theorem d_Mod_readBlock_128 : decode M_Mod_readBlock.2.1 128 = .ok (.aload_n 0, 1) := by decide +kernel
theorem d_Mod_readBlock_129 : decode M_Mod_readBlock.2.1 129 = .ok (.aload_n 0, 1) := by decide +kernel
theorem d_Mod_readBlock_130 : decode M_Mod_readBlock.2.1 130 = .ok (.getfield 131, 3) := by decide +kernel
theorem d_Mod_readBlock_133 : decode M_Mod_readBlock.2.1 133 = .ok (.ifCond .ne 7, 3) := by decide +kernel
theorem d_Mod_readBlock_136 : decode M_Mod_readBlock.2.1 136 = .ok (.iconst 1, 1) := by decide +kernel
theorem d_Mod_readBlock_137 : decode M_Mod_readBlock.2.1 137 = .ok (.goto 4, 3) := by decide +kernel
theorem d_Mod_readBlock_140 : decode M_Mod_readBlock.2.1 140 = .ok (.iconst 0, 1) := by decide +kernel
theorem d_Mod_readBlock_141 : decode M_Mod_readBlock.2.1 141 = .ok (.bipush (-7), 2) := by decide +kernel
theorem d_Mod_readBlock_143 : decode M_Mod_readBlock.2.1 143 = .ok (.iload_n 2, 1) := by decide +kernel
theorem d_Mod_readBlock_144 : decode M_Mod_readBlock.2.1 144 = .ok (.invokevirtual 246, 3) := by decide +kernel
theorem d_Mod_readBlock_147 : decode M_Mod_readBlock.2.1 147 = .ok (.aload_n 0, 1) := by decide +kernel
theorem d_Mod_readBlock_148 : decode M_Mod_readBlock.2.1 148 = .ok (.getfield 231, 3) := by decide +kernel
theorem d_Mod_readBlock_151 : decode M_Mod_readBlock.2.1 151 = .ok (.ifCond .ne 7, 3) := by decide +kernel
theorem d_Mod_readBlock_154 : decode M_Mod_readBlock.2.1 154 = .ok (.aload_n 0, 1) := by decide +kernel
theorem d_Mod_readBlock_155 : decode M_Mod_readBlock.2.1 155 = .ok (.invokevirtual 266, 3) := by decide +kernel
theorem d_Mod_readBlock_158 : decode M_Mod_readBlock.2.1 158 = .ok (.iconst 0, 1) := by decide +kernel
theorem d_Mod_readBlock_159 : decode M_Mod_readBlock.2.1 159 = .ok (.istore_n 3, 1) := by decide +kernel
theorem d_Mod_readBlock_160 : decode M_Mod_readBlock.2.1 160 = .ok (.iload_n 3, 1) := by decide +kernel
theorem d_Mod_readBlock_161 : decode M_Mod_readBlock.2.1 161 = .ok (.aload_n 0, 1) := by decide +kernel
theorem d_Mod_readBlock_162 : decode M_Mod_readBlock.2.1 162 = .ok (.getfield 134, 3) := by decide +kernel
theorem d_Mod_readBlock_165 : decode M_Mod_readBlock.2.1 165 = .ok (.if_icmp .ge 26, 3) := by decide +kernel
theorem d_Mod_readBlock_168 : decode M_Mod_readBlock.2.1 168 = .ok (.aload_n 0, 1) := by decide +kernel
theorem d_Mod_readBlock_169 : decode M_Mod_readBlock.2.1 169 = .ok (.getfield 231, 3) := by decide +kernel
theorem d_Mod_readBlock_172 : decode M_Mod_readBlock.2.1 172 = .ok (.ifCond .ne 19, 3) := by decide +kernel
theorem d_Mod_readBlock_175 : decode M_Mod_readBlock.2.1 175 = .ok (.aload_n 0, 1) := by decide +kernel
theorem d_Mod_readBlock_176 : decode M_Mod_readBlock.2.1 176 = .ok (.iload_n 3, 1) := by decide +kernel
theorem d_Mod_readBlock_177 : decode M_Mod_readBlock.2.1 177 = .ok (.invokevirtual 269, 3) := by decide +kernel
theorem d_Mod_readBlock_180 : decode M_Mod_readBlock.2.1 180 = .ok (.aload_n 0, 1) := by decide +kernel
theorem d_Mod_readBlock_181 : decode M_Mod_readBlock.2.1 181 = .ok (.iload_n 3, 1) := by decide +kernel
theorem d_Mod_readBlock_182 : decode M_Mod_readBlock.2.1 182 = .ok (.invokevirtual 143, 3) := by decide +kernel
theorem d_Mod_readBlock_185 : decode M_Mod_readBlock.2.1 185 = .ok (.iinc 3 1, 3) := by decide +kernel
theorem d_Mod_readBlock_188 : decode M_Mod_readBlock.2.1 188 = .ok (.goto (-28), 3) := by decide +kernel
theorem d_Mod_readBlock_191 : decode M_Mod_readBlock.2.1 191 = .ok (.aload_n 0, 1) := by decide +kernel
theorem d_Mod_readBlock_192 : decode M_Mod_readBlock.2.1 192 = .ok (.getfield 231, 3) := by decide +kernel
theorem d_Mod_readBlock_195 : decode M_Mod_readBlock.2.1 195 = .ok (.ifCond .eq 4, 3) := by decide +kernel
theorem d_Mod_readBlock_198 : decode M_Mod_readBlock.2.1 198 = .ok (.return_, 1) := by decide +kernel
theorem d_Mod_readBlock_199 : decode M_Mod_readBlock.2.1 199 = .ok (.aload_n 0, 1) := by decide +kernel
theorem d_Mod_readBlock_200 : decode M_Mod_readBlock.2.1 200 = .ok (.iload_n 1, 1) := by decide +kernel
theorem d_Mod_readBlock_201 : decode M_Mod_readBlock.2.1 201 = .ok (.invokevirtual 272, 3) := by decide +kernel
theorem d_Mod_readBlock_204 : decode M_Mod_readBlock.2.1 204 = .ok (.istore_n 3, 1) := by decide +kernel
theorem d_Mod_readBlock_205 : decode M_Mod_readBlock.2.1 205 = .ok (.aload_n 0, 1) := by decide +kernel
theorem d_Mod_readBlock_206 : decode M_Mod_readBlock.2.1 206 = .ok (.aload_n 0, 1) := by decide +kernel
theorem d_Mod_readBlock_207 : decode M_Mod_readBlock.2.1 207 = .ok (.getfield 105, 3) := by decide +kernel
theorem d_Mod_readBlock_210 : decode M_Mod_readBlock.2.1 210 = .ok (.aload_n 0, 1) := by decide +kernel
theorem d_Mod_readBlock_211 : decode M_Mod_readBlock.2.1 211 = .ok (.getfield 98, 3) := by decide +kernel
theorem d_Mod_readBlock_214 : decode M_Mod_readBlock.2.1 214 = .ok (.if_icmp .lt 7, 3) := by decide +kernel
theorem d_Mod_readBlock_217 : decode M_Mod_readBlock.2.1 217 = .ok (.iconst 1, 1) := by decide +kernel
theorem d_Mod_readBlock_218 : decode M_Mod_readBlock.2.1 218 = .ok (.goto 4, 3) := by decide +kernel
theorem d_Mod_readBlock_221 : decode M_Mod_readBlock.2.1 221 = .ok (.iconst 0, 1) := by decide +kernel
theorem d_Mod_readBlock_222 : decode M_Mod_readBlock.2.1 222 = .ok (.bipush (-12), 2) := by decide +kernel
theorem d_Mod_readBlock_224 : decode M_Mod_readBlock.2.1 224 = .ok (.iload_n 3, 1) := by decide +kernel
theorem d_Mod_readBlock_225 : decode M_Mod_readBlock.2.1 225 = .ok (.invokevirtual 246, 3) := by decide +kernel
theorem d_Mod_readBlock_228 : decode M_Mod_readBlock.2.1 228 = .ok (.aload_n 0, 1) := by decide +kernel
theorem d_Mod_readBlock_229 : decode M_Mod_readBlock.2.1 229 = .ok (.getfield 231, 3) := by decide +kernel
theorem d_Mod_readBlock_232 : decode M_Mod_readBlock.2.1 232 = .ok (.ifCond .ne 30, 3) := by decide +kernel
theorem d_Mod_readBlock_235 : decode M_Mod_readBlock.2.1 235 = .ok (.aload_n 0, 1) := by decide +kernel
theorem d_Mod_readBlock_236 : decode M_Mod_readBlock.2.1 236 = .ok (.invokevirtual 275, 3) := by decide +kernel
theorem d_Mod_readBlock_239 : decode M_Mod_readBlock.2.1 239 = .ok (.aload_n 0, 1) := by decide +kernel
theorem d_Mod_readBlock_240 : decode M_Mod_readBlock.2.1 240 = .ok (.invokevirtual 278, 3) := by decide +kernel
theorem d_Mod_readBlock_243 : decode M_Mod_readBlock.2.1 243 = .ok (.istore 4, 2) := by decide +kernel
theorem d_Mod_readBlock_245 : decode M_Mod_readBlock.2.1 245 = .ok (.aload_n 0, 1) := by decide +kernel
theorem d_Mod_readBlock_246 : decode M_Mod_readBlock.2.1 246 = .ok (.iload 4, 2) := by decide +kernel
theorem d_Mod_readBlock_248 : decode M_Mod_readBlock.2.1 248 = .ok (.ifCond .ne 7, 3) := by decide +kernel
theorem d_Mod_readBlock_251 : decode M_Mod_readBlock.2.1 251 = .ok (.iconst 1, 1) := by decide +kernel
theorem d_Mod_readBlock_252 : decode M_Mod_readBlock.2.1 252 = .ok (.goto 4, 3) := by decide +kernel
theorem d_Mod_readBlock_255 : decode M_Mod_readBlock.2.1 255 = .ok (.iconst 0, 1) := by decide +kernel
theorem d_Mod_readBlock_256 : decode M_Mod_readBlock.2.1 256 = .ok (.bipush (-13), 2) := by decide +kernel
theorem d_Mod_readBlock_258 : decode M_Mod_readBlock.2.1 258 = .ok (.iload_n 3, 1) := by decide +kernel
theorem d_Mod_readBlock_259 : decode M_Mod_readBlock.2.1 259 = .ok (.invokevirtual 246, 3) := by decide +kernel
theorem d_Mod_readBlock_262 : decode M_Mod_readBlock.2.1 262 = .ok (.return_, 1) := by decide +kernel
theorem d_Mod_tooMuch_0 : decode M_Mod_tooMuch.2.1 0 = .ok (.aload_n 0, 1) := by decide +kernel
theorem d_Mod_tooMuch_1 : decode M_Mod_tooMuch.2.1 1 = .ok (.getfield 86, 3) := by decide +kernel
theorem d_Mod_tooMuch_4 : decode M_Mod_tooMuch.2.1 4 = .ok (.aload_n 0, 1) := by decide +kernel
theorem d_Mod_tooMuch_5 : decode M_Mod_tooMuch.2.1 5 = .ok (.getfield 91, 3) := by decide +kernel
theorem d_Mod_tooMuch_8 : decode M_Mod_tooMuch.2.1 8 = .ok (.iadd, 1) := by decide +kernel
theorem d_Mod_tooMuch_9 : decode M_Mod_tooMuch.2.1 9 = .ok (.sipush 2000, 3) := by decide +kernel
theorem d_Mod_tooMuch_12 : decode M_Mod_tooMuch.2.1 12 = .ok (.if_icmp .le 7, 3) := by decide +kernel
theorem d_Mod_tooMuch_15 : decode M_Mod_tooMuch.2.1 15 = .ok (.iconst 1, 1) := by decide +kernel
theorem d_Mod_tooMuch_16 : decode M_Mod_tooMuch.2.1 16 = .ok (.goto 4, 3) := by decide +kernel
theorem d_Mod_tooMuch_19 : decode M_Mod_tooMuch.2.1 19 = .ok (.iconst 0, 1) := by decide +kernel
theorem d_Mod_tooMuch_20 : decode M_Mod_tooMuch.2.1 20 = .ok (.ireturn, 1) := by decide +kernel
theorem d_Mod_addBytes_0 : decode M_Mod_addBytes.2.1 0 = .ok (.iconst 0, 1) := by decide +kernel
theorem d_Mod_addBytes_1 : decode M_Mod_addBytes.2.1 1 = .ok (.istore_n 1, 1) := by decide +kernel
theorem d_Mod_addBytes_2 : decode M_Mod_addBytes.2.1 2 = .ok (.iload_n 1, 1) := by decide +kernel
theorem d_Mod_addBytes_3 : decode M_Mod_addBytes.2.1 3 = .ok (.aload_n 0, 1) := by decide +kernel
theorem d_Mod_addBytes_4 : decode M_Mod_addBytes.2.1 4 = .ok (.getfield 91, 3) := by decide +kernel
theorem d_Mod_addBytes_7 : decode M_Mod_addBytes.2.1 7 = .ok (.if_icmp .ge 34, 3) := by decide +kernel
theorem d_Mod_addBytes_10 : decode M_Mod_addBytes.2.1 10 = .ok (.aload_n 0, 1) := by decide +kernel
theorem d_Mod_addBytes_11 : decode M_Mod_addBytes.2.1 11 = .ok (.getfield 16, 3) := by decide +kernel
theorem d_Mod_addBytes_14 : decode M_Mod_addBytes.2.1 14 = .ok (.aload_n 0, 1) := by decide +kernel
theorem d_Mod_addBytes_15 : decode M_Mod_addBytes.2.1 15 = .ok (.getfield 86, 3) := by decide +kernel
theorem d_Mod_addBytes_18 : decode M_Mod_addBytes.2.1 18 = .ok (.aload_n 0, 1) := by decide +kernel
theorem d_Mod_addBytes_19 : decode M_Mod_addBytes.2.1 19 = .ok (.getfield 23, 3) := by decide +kernel
theorem d_Mod_addBytes_22 : decode M_Mod_addBytes.2.1 22 = .ok (.iload_n 1, 1) := by decide +kernel
theorem d_Mod_addBytes_23 : decode M_Mod_addBytes.2.1 23 = .ok (.iaload, 1) := by decide +kernel
theorem d_Mod_addBytes_24 : decode M_Mod_addBytes.2.1 24 = .ok (.iastore, 1) := by decide +kernel
theorem d_Mod_addBytes_25 : decode M_Mod_addBytes.2.1 25 = .ok (.aload_n 0, 1) := by decide +kernel
theorem d_Mod_addBytes_26 : decode M_Mod_addBytes.2.1 26 = .ok (.dup, 1) := by decide +kernel
theorem d_Mod_addBytes_27 : decode M_Mod_addBytes.2.1 27 = .ok (.getfield 86, 3) := by decide +kernel
theorem d_Mod_addBytes_30 : decode M_Mod_addBytes.2.1 30 = .ok (.iconst 1, 1) := by decide +kernel
theorem d_Mod_addBytes_31 : decode M_Mod_addBytes.2.1 31 = .ok (.iadd, 1) := by decide +kernel
theorem d_Mod_addBytes_32 : decode M_Mod_addBytes.2.1 32 = .ok (.putfield 86, 3) := by decide +kernel
theorem d_Mod_addBytes_35 : decode M_Mod_addBytes.2.1 35 = .ok (.iinc 1 1, 3) := by decide +kernel
theorem d_Mod_addBytes_38 : decode M_Mod_addBytes.2.1 38 = .ok (.goto (-36), 3) := by decide +kernel
theorem d_Mod_addBytes_41 : decode M_Mod_addBytes.2.1 41 = .ok (.return_, 1) := by decide +kernel
theorem d_Mod_readStream_0 : decode M_Mod_readStream.2.1 0 = .ok (.aload_n 0, 1) := by decide +kernel
theorem d_Mod_readStream_1 : decode M_Mod_readStream.2.1 1 = .ok (.getfield 237, 3) := by decide +kernel
theorem d_Mod_readStream_4 : decode M_Mod_readStream.2.1 4 = .ok (.istore_n 1, 1) := by decide +kernel
theorem d_Mod_readStream_5 : decode M_Mod_readStream.2.1 5 = .ok (.aload_n 0, 1) := by decide +kernel
theorem d_Mod_readStream_6 : decode M_Mod_readStream.2.1 6 = .ok (.aload_n 0, 1) := by decide +kernel
theorem d_Mod_readStream_7 : decode M_Mod_readStream.2.1 7 = .ok (.bipush 16, 2) := by decide +kernel
theorem d_Mod_readStream_9 : decode M_Mod_readStream.2.1 9 = .ok (.iload_n 1, 1) := by decide +kernel
theorem d_Mod_readStream_10 : decode M_Mod_readStream.2.1 10 = .ok (.invokevirtual 243, 3) := by decide +kernel
theorem d_Mod_readStream_13 : decode M_Mod_readStream.2.1 13 = .ok (.sipush 21314, 3) := by decide +kernel
theorem d_Mod_readStream_16 : decode M_Mod_readStream.2.1 16 = .ok (.if_icmp .eq 7, 3) := by decide +kernel
theorem d_Mod_readStream_19 : decode M_Mod_readStream.2.1 19 = .ok (.iconst 1, 1) := by decide +kernel
theorem d_Mod_readStream_20 : decode M_Mod_readStream.2.1 20 = .ok (.goto 4, 3) := by decide +kernel
theorem d_Mod_readStream_23 : decode M_Mod_readStream.2.1 23 = .ok (.iconst 0, 1) := by decide +kernel
theorem d_Mod_readStream_24 : decode M_Mod_readStream.2.1 24 = .ok (.bipush (-3), 2) := by decide +kernel
theorem d_Mod_readStream_26 : decode M_Mod_readStream.2.1 26 = .ok (.iload_n 1, 1) := by decide +kernel
theorem d_Mod_readStream_27 : decode M_Mod_readStream.2.1 27 = .ok (.invokevirtual 246, 3) := by decide +kernel
theorem d_Mod_readStream_30 : decode M_Mod_readStream.2.1 30 = .ok (.aload_n 0, 1) := by decide +kernel
theorem d_Mod_readStream_31 : decode M_Mod_readStream.2.1 31 = .ok (.getfield 237, 3) := by decide +kernel
theorem d_Mod_readStream_34 : decode M_Mod_readStream.2.1 34 = .ok (.istore_n 1, 1) := by decide +kernel
theorem d_Mod_readStream_35 : decode M_Mod_readStream.2.1 35 = .ok (.aload_n 0, 1) := by decide +kernel
theorem d_Mod_readStream_36 : decode M_Mod_readStream.2.1 36 = .ok (.getfield 231, 3) := by decide +kernel
theorem d_Mod_readStream_39 : decode M_Mod_readStream.2.1 39 = .ok (.ifCond .ne 13, 3) := by decide +kernel
theorem d_Mod_readStream_42 : decode M_Mod_readStream.2.1 42 = .ok (.aload_n 0, 1) := by decide +kernel
theorem d_Mod_readStream_43 : decode M_Mod_readStream.2.1 43 = .ok (.bipush 8, 2) := by decide +kernel
theorem d_Mod_readStream_45 : decode M_Mod_readStream.2.1 45 = .ok (.iload_n 1, 1) := by decide +kernel
theorem d_Mod_readStream_46 : decode M_Mod_readStream.2.1 46 = .ok (.invokevirtual 243, 3) := by decide +kernel
theorem d_Mod_readStream_49 : decode M_Mod_readStream.2.1 49 = .ok (.goto 4, 3) := by decide +kernel
theorem d_Mod_readStream_52 : decode M_Mod_readStream.2.1 52 = .ok (.iconst 1, 1) := by decide +kernel
theorem d_Mod_readStream_53 : decode M_Mod_readStream.2.1 53 = .ok (.istore_n 2, 1) := by decide +kernel
theorem d_Mod_readStream_54 : decode M_Mod_readStream.2.1 54 = .ok (.aload_n 0, 1) := by decide +kernel
theorem d_Mod_readStream_55 : decode M_Mod_readStream.2.1 55 = .ok (.iload_n 2, 1) := by decide +kernel
theorem d_Mod_readStream_56 : decode M_Mod_readStream.2.1 56 = .ok (.iconst 1, 1) := by decide +kernel
theorem d_Mod_readStream_57 : decode M_Mod_readStream.2.1 57 = .ok (.if_icmp .lt 9, 3) := by decide +kernel
theorem d_Mod_readStream_60 : decode M_Mod_readStream.2.1 60 = .ok (.iload_n 2, 1) := by decide +kernel
theorem d_Mod_readStream_61 : decode M_Mod_readStream.2.1 61 = .ok (.bipush 8, 2) := by decide +kernel
theorem d_Mod_readStream_63 : decode M_Mod_readStream.2.1 63 = .ok (.if_icmp .le 7, 3) := by decide +kernel
theorem d_Mod_readStream_66 : decode M_Mod_readStream.2.1 66 = .ok (.iconst 1, 1) := by decide +kernel
theorem d_Mod_readStream_67 : decode M_Mod_readStream.2.1 67 = .ok (.goto 4, 3) := by decide +kernel
theorem d_Mod_readStream_70 : decode M_Mod_readStream.2.1 70 = .ok (.iconst 0, 1) := by decide +kernel
theorem d_Mod_readStream_71 : decode M_Mod_readStream.2.1 71 = .ok (.bipush (-3), 2) := by decide +kernel
theorem d_Mod_readStream_73 : decode M_Mod_readStream.2.1 73 = .ok (.iload_n 1, 1) := by decide +kernel
theorem d_Mod_readStream_74 : decode M_Mod_readStream.2.1 74 = .ok (.invokevirtual 246, 3) := by decide +kernel
theorem d_Mod_readStream_77 : decode M_Mod_readStream.2.1 77 = .ok (.iconst 0, 1) := by decide +kernel
theorem d_Mod_readStream_78 : decode M_Mod_readStream.2.1 78 = .ok (.istore_n 3, 1) := by decide +kernel
theorem d_Mod_readStream_79 : decode M_Mod_readStream.2.1 79 = .ok (.iconst 0, 1) := by decide +kernel
theorem d_Mod_readStream_80 : decode M_Mod_readStream.2.1 80 = .ok (.istore 4, 2) := by decide +kernel
theorem d_Mod_readStream_82 : decode M_Mod_readStream.2.1 82 = .ok (.aload_n 0, 1) := by decide +kernel
theorem d_Mod_readStream_83 : decode M_Mod_readStream.2.1 83 = .ok (.getfield 231, 3) := by decide +kernel
theorem d_Mod_readStream_86 : decode M_Mod_readStream.2.1 86 = .ok (.ifCond .ne 209, 3) := by decide +kernel
theorem d_Mod_readStream_89 : decode M_Mod_readStream.2.1 89 = .ok (.aload_n 0, 1) := by decide +kernel
theorem d_Mod_readStream_90 : decode M_Mod_readStream.2.1 90 = .ok (.getfield 75, 3) := by decide +kernel
theorem d_Mod_readStream_93 : decode M_Mod_readStream.2.1 93 = .ok (.ifCond .ne 202, 3) := by decide +kernel
theorem d_Mod_readStream_96 : decode M_Mod_readStream.2.1 96 = .ok (.aload_n 0, 1) := by decide +kernel
theorem d_Mod_readStream_97 : decode M_Mod_readStream.2.1 97 = .ok (.getfield 237, 3) := by decide +kernel
theorem d_Mod_readStream_100 : decode M_Mod_readStream.2.1 100 = .ok (.istore_n 1, 1) := by decide +kernel
theorem d_Mod_readStream_101 : decode M_Mod_readStream.2.1 101 = .ok (.aload_n 0, 1) := by decide +kernel
theorem d_Mod_readStream_102 : decode M_Mod_readStream.2.1 102 = .ok (.bipush 24, 2) := by decide +kernel
theorem d_Mod_readStream_104 : decode M_Mod_readStream.2.1 104 = .ok (.iload_n 1, 1) := by decide +kernel
theorem d_Mod_readStream_105 : decode M_Mod_readStream.2.1 105 = .ok (.invokevirtual 243, 3) := by decide +kernel
theorem d_Mod_readStream_108 : decode M_Mod_readStream.2.1 108 = .ok (.istore 5, 2) := by decide +kernel
theorem d_Mod_readStream_110 : decode M_Mod_readStream.2.1 110 = .ok (.aload_n 0, 1) := by decide +kernel
theorem d_Mod_readStream_111 : decode M_Mod_readStream.2.1 111 = .ok (.getfield 231, 3) := by decide +kernel
theorem d_Mod_readStream_114 : decode M_Mod_readStream.2.1 114 = .ok (.ifCond .ne 58, 3) := by decide +kernel
theorem d_Mod_readStream_117 : decode M_Mod_readStream.2.1 117 = .ok (.iload 5, 2) := by decide +kernel
theorem d_Mod_readStream_119 : decode M_Mod_readStream.2.1 119 = .ok (.ldc 227, 2) := by decide +kernel
theorem d_Mod_readStream_121 : decode M_Mod_readStream.2.1 121 = .ok (.if_icmp .ne 51, 3) := by decide +kernel
theorem d_Mod_readStream_124 : decode M_Mod_readStream.2.1 124 = .ok (.aload_n 0, 1) := by decide +kernel
theorem d_Mod_readStream_125 : decode M_Mod_readStream.2.1 125 = .ok (.getfield 237, 3) := by decide +kernel
theorem d_Mod_readStream_128 : decode M_Mod_readStream.2.1 128 = .ok (.istore_n 1, 1) := by decide +kernel
theorem d_Mod_readStream_129 : decode M_Mod_readStream.2.1 129 = .ok (.aload_n 0, 1) := by decide +kernel
theorem d_Mod_readStream_130 : decode M_Mod_readStream.2.1 130 = .ok (.aload_n 0, 1) := by decide +kernel
theorem d_Mod_readStream_131 : decode M_Mod_readStream.2.1 131 = .ok (.bipush 16, 2) := by decide +kernel
theorem d_Mod_readStream_133 : decode M_Mod_readStream.2.1 133 = .ok (.iload_n 1, 1) := by decide +kernel
theorem d_Mod_readStream_134 : decode M_Mod_readStream.2.1 134 = .ok (.invokevirtual 243, 3) := by decide +kernel
theorem d_Mod_readStream_137 : decode M_Mod_readStream.2.1 137 = .ok (.iload_n 3, 1) := by decide +kernel
theorem d_Mod_readStream_138 : decode M_Mod_readStream.2.1 138 = .ok (.if_icmp .eq 7, 3) := by decide +kernel
theorem d_Mod_readStream_141 : decode M_Mod_readStream.2.1 141 = .ok (.iconst 1, 1) := by decide +kernel
theorem d_Mod_readStream_142 : decode M_Mod_readStream.2.1 142 = .ok (.goto 4, 3) := by decide +kernel
theorem d_Mod_readStream_145 : decode M_Mod_readStream.2.1 145 = .ok (.iconst 0, 1) := by decide +kernel
theorem d_Mod_readStream_146 : decode M_Mod_readStream.2.1 146 = .ok (.bipush (-15), 2) := by decide +kernel
theorem d_Mod_readStream_148 : decode M_Mod_readStream.2.1 148 = .ok (.iload_n 1, 1) := by decide +kernel
theorem d_Mod_readStream_149 : decode M_Mod_readStream.2.1 149 = .ok (.invokevirtual 246, 3) := by decide +kernel
theorem d_Mod_readStream_152 : decode M_Mod_readStream.2.1 152 = .ok (.aload_n 0, 1) := by decide +kernel
theorem d_Mod_readStream_153 : decode M_Mod_readStream.2.1 153 = .ok (.aload_n 0, 1) := by decide +kernel
theorem d_Mod_readStream_154 : decode M_Mod_readStream.2.1 154 = .ok (.getfield 237, 3) := by decide +kernel
theorem d_Mod_readStream_157 : decode M_Mod_readStream.2.1 157 = .ok (.bipush 7, 2) := by decide +kernel
theorem d_Mod_readStream_159 : decode M_Mod_readStream.2.1 159 = .ok (.iadd, 1) := by decide +kernel
theorem d_Mod_readStream_160 : decode M_Mod_readStream.2.1 160 = .ok (.bipush 8, 2) := by decide +kernel
theorem d_Mod_readStream_162 : decode M_Mod_readStream.2.1 162 = .ok (.idiv, 1) := by decide +kernel
theorem d_Mod_readStream_163 : decode M_Mod_readStream.2.1 163 = .ok (.bipush 8, 2) := by decide +kernel
theorem d_Mod_readStream_165 : decode M_Mod_readStream.2.1 165 = .ok (.imul, 1) := by decide +kernel
theorem d_Mod_readStream_166 : decode M_Mod_readStream.2.1 166 = .ok (.putfield 237, 3) := by decide +kernel
theorem d_Mod_readStream_169 : decode M_Mod_readStream.2.1 169 = .ok (.iload 4, 2) := by decide +kernel
theorem d_Mod_readStream_171 : decode M_Mod_readStream.2.1 171 = .ok (.ireturn, 1) := by decide +kernel
theorem d_Mod_readStream_172 : decode M_Mod_readStream.2.1 172 = .ok (.aload_n 0, 1) := by decide +kernel
theorem d_Mod_readStream_173 : decode M_Mod_readStream.2.1 173 = .ok (.iload 5, 2) := by decide +kernel
theorem d_Mod_readStream_175 : decode M_Mod_readStream.2.1 175 = .ok (.ldc 162, 2) := by decide +kernel
theorem d_Mod_readStream_177 : decode M_Mod_readStream.2.1 177 = .ok (.if_icmp .eq 7, 3) := by decide +kernel
theorem d_Mod_readStream_180 : decode M_Mod_readStream.2.1 180 = .ok (.iconst 1, 1) := by decide +kernel
theorem d_Mod_readStream_181 : decode M_Mod_readStream.2.1 181 = .ok (.goto 4, 3) := by decide +kernel
theorem d_Mod_readStream_184 : decode M_Mod_readStream.2.1 184 = .ok (.iconst 0, 1) := by decide +kernel
theorem d_Mod_readStream_185 : decode M_Mod_readStream.2.1 185 = .ok (.bipush (-4), 2) := by decide +kernel
theorem d_Mod_readStream_187 : decode M_Mod_readStream.2.1 187 = .ok (.iload_n 1, 1) := by decide +kernel
theorem d_Mod_readStream_188 : decode M_Mod_readStream.2.1 188 = .ok (.invokevirtual 246, 3) := by decide +kernel
theorem d_Mod_readStream_191 : decode M_Mod_readStream.2.1 191 = .ok (.aload_n 0, 1) := by decide +kernel
theorem d_Mod_readStream_192 : decode M_Mod_readStream.2.1 192 = .ok (.getfield 231, 3) := by decide +kernel
theorem d_Mod_readStream_195 : decode M_Mod_readStream.2.1 195 = .ok (.ifCond .ne 11, 3) := by decide +kernel
theorem d_Mod_readStream_198 : decode M_Mod_readStream.2.1 198 = .ok (.aload_n 0, 1) := by decide +kernel
theorem d_Mod_readStream_199 : decode M_Mod_readStream.2.1 199 = .ok (.bipush 8, 2) := by decide +kernel
theorem d_Mod_readStream_201 : decode M_Mod_readStream.2.1 201 = .ok (.iload_n 2, 1) := by decide +kernel
theorem d_Mod_readStream_202 : decode M_Mod_readStream.2.1 202 = .ok (.imul, 1) := by decide +kernel
theorem d_Mod_readStream_203 : decode M_Mod_readStream.2.1 203 = .ok (.invokevirtual 282, 3) := by decide +kernel
theorem d_Mod_readStream_206 : decode M_Mod_readStream.2.1 206 = .ok (.aload_n 0, 1) := by decide +kernel
theorem d_Mod_readStream_207 : decode M_Mod_readStream.2.1 207 = .ok (.getfield 231, 3) := by decide +kernel
theorem d_Mod_readStream_210 : decode M_Mod_readStream.2.1 210 = .ok (.ifCond .ne 52, 3) := by decide +kernel
theorem d_Mod_readStream_213 : decode M_Mod_readStream.2.1 213 = .ok (.aload_n 0, 1) := by decide +kernel
theorem d_Mod_readStream_214 : decode M_Mod_readStream.2.1 214 = .ok (.aload_n 0, 1) := by decide +kernel
theorem d_Mod_readStream_215 : decode M_Mod_readStream.2.1 215 = .ok (.invokevirtual 285, 3) := by decide +kernel
theorem d_Mod_readStream_218 : decode M_Mod_readStream.2.1 218 = .ok (.ifCond .eq 7, 3) := by decide +kernel
theorem d_Mod_readStream_221 : decode M_Mod_readStream.2.1 221 = .ok (.iconst 1, 1) := by decide +kernel
theorem d_Mod_readStream_222 : decode M_Mod_readStream.2.1 222 = .ok (.goto 4, 3) := by decide +kernel
theorem d_Mod_readStream_225 : decode M_Mod_readStream.2.1 225 = .ok (.iconst 0, 1) := by decide +kernel
theorem d_Mod_readStream_226 : decode M_Mod_readStream.2.1 226 = .ok (.putfield 75, 3) := by decide +kernel
theorem d_Mod_readStream_229 : decode M_Mod_readStream.2.1 229 = .ok (.aload_n 0, 1) := by decide +kernel
theorem d_Mod_readStream_230 : decode M_Mod_readStream.2.1 230 = .ok (.aload_n 0, 1) := by decide +kernel
theorem d_Mod_readStream_231 : decode M_Mod_readStream.2.1 231 = .ok (.getfield 75, 3) := by decide +kernel
theorem d_Mod_readStream_234 : decode M_Mod_readStream.2.1 234 = .ok (.ifCond .ne 18, 3) := by decide +kernel
theorem d_Mod_readStream_237 : decode M_Mod_readStream.2.1 237 = .ok (.aload_n 0, 1) := by decide +kernel
theorem d_Mod_readStream_238 : decode M_Mod_readStream.2.1 238 = .ok (.invokevirtual 178, 3) := by decide +kernel
theorem d_Mod_readStream_241 : decode M_Mod_readStream.2.1 241 = .ok (.aload_n 0, 1) := by decide +kernel
theorem d_Mod_readStream_242 : decode M_Mod_readStream.2.1 242 = .ok (.getfield 163, 3) := by decide +kernel
theorem d_Mod_readStream_245 : decode M_Mod_readStream.2.1 245 = .ok (.if_icmp .eq 7, 3) := by decide +kernel
theorem d_Mod_readStream_248 : decode M_Mod_readStream.2.1 248 = .ok (.iconst 1, 1) := by decide +kernel
theorem d_Mod_readStream_249 : decode M_Mod_readStream.2.1 249 = .ok (.goto 4, 3) := by decide +kernel
theorem d_Mod_readStream_252 : decode M_Mod_readStream.2.1 252 = .ok (.iconst 0, 1) := by decide +kernel
theorem d_Mod_readStream_253 : decode M_Mod_readStream.2.1 253 = .ok (.bipush (-14), 2) := by decide +kernel
theorem d_Mod_readStream_255 : decode M_Mod_readStream.2.1 255 = .ok (.aload_n 0, 1) := by decide +kernel
theorem d_Mod_readStream_256 : decode M_Mod_readStream.2.1 256 = .ok (.getfield 260, 3) := by decide +kernel
theorem d_Mod_readStream_259 : decode M_Mod_readStream.2.1 259 = .ok (.invokevirtual 246, 3) := by decide +kernel
theorem d_Mod_readStream_262 : decode M_Mod_readStream.2.1 262 = .ok (.aload_n 0, 1) := by decide +kernel
theorem d_Mod_readStream_263 : decode M_Mod_readStream.2.1 263 = .ok (.getfield 231, 3) := by decide +kernel
theorem d_Mod_readStream_266 : decode M_Mod_readStream.2.1 266 = .ok (.ifCond .ne 26, 3) := by decide +kernel
theorem d_Mod_readStream_269 : decode M_Mod_readStream.2.1 269 = .ok (.aload_n 0, 1) := by decide +kernel
theorem d_Mod_readStream_270 : decode M_Mod_readStream.2.1 270 = .ok (.getfield 75, 3) := by decide +kernel
theorem d_Mod_readStream_273 : decode M_Mod_readStream.2.1 273 = .ok (.ifCond .ne 19, 3) := by decide +kernel
theorem d_Mod_readStream_276 : decode M_Mod_readStream.2.1 276 = .ok (.aload_n 0, 1) := by decide +kernel
theorem d_Mod_readStream_277 : decode M_Mod_readStream.2.1 277 = .ok (.invokevirtual 288, 3) := by decide +kernel
theorem d_Mod_readStream_280 : decode M_Mod_readStream.2.1 280 = .ok (.iload_n 3, 1) := by decide +kernel
theorem d_Mod_readStream_281 : decode M_Mod_readStream.2.1 281 = .ok (.aload_n 0, 1) := by decide +kernel
theorem d_Mod_readStream_282 : decode M_Mod_readStream.2.1 282 = .ok (.getfield 163, 3) := by decide +kernel
theorem d_Mod_readStream_285 : decode M_Mod_readStream.2.1 285 = .ok (.invokestatic 221, 3) := by decide +kernel
theorem d_Mod_readStream_288 : decode M_Mod_readStream.2.1 288 = .ok (.istore_n 3, 1) := by decide +kernel
theorem d_Mod_readStream_289 : decode M_Mod_readStream.2.1 289 = .ok (.iinc 4 1, 3) := by decide +kernel
theorem d_Mod_readStream_292 : decode M_Mod_readStream.2.1 292 = .ok (.goto (-210), 3) := by decide +kernel
theorem d_Mod_readStream_295 : decode M_Mod_readStream.2.1 295 = .ok (.iload 4, 2) := by decide +kernel
theorem d_Mod_readStream_297 : decode M_Mod_readStream.2.1 297 = .ok (.ireturn, 1) := by decide +kernel
theorem d_Mod_unpack_0 : decode M_Mod_unpack.2.1 0 = .ok (.aload_n 0, 1) := by decide +kernel
theorem d_Mod_unpack_1 : decode M_Mod_unpack.2.1 1 = .ok (.iconst 0, 1) := by decide +kernel
theorem d_Mod_unpack_2 : decode M_Mod_unpack.2.1 2 = .ok (.putfield 75, 3) := by decide +kernel
theorem d_Mod_unpack_5 : decode M_Mod_unpack.2.1 5 = .ok (.aload_n 0, 1) := by decide +kernel
theorem d_Mod_unpack_6 : decode M_Mod_unpack.2.1 6 = .ok (.iconst (-1), 1) := by decide +kernel
theorem d_Mod_unpack_7 : decode M_Mod_unpack.2.1 7 = .ok (.putfield 19, 3) := by decide +kernel
theorem d_Mod_unpack_10 : decode M_Mod_unpack.2.1 10 = .ok (.aload_n 0, 1) := by decide +kernel
theorem d_Mod_unpack_11 : decode M_Mod_unpack.2.1 11 = .ok (.iconst 0, 1) := by decide +kernel
theorem d_Mod_unpack_12 : decode M_Mod_unpack.2.1 12 = .ok (.putfield 237, 3) := by decide +kernel
theorem d_Mod_unpack_15 : decode M_Mod_unpack.2.1 15 = .ok (.aload_n 0, 1) := by decide +kernel
theorem d_Mod_unpack_16 : decode M_Mod_unpack.2.1 16 = .ok (.iconst 0, 1) := by decide +kernel
theorem d_Mod_unpack_17 : decode M_Mod_unpack.2.1 17 = .ok (.putfield 231, 3) := by decide +kernel
theorem d_Mod_unpack_20 : decode M_Mod_unpack.2.1 20 = .ok (.aload_n 0, 1) := by decide +kernel
theorem d_Mod_unpack_21 : decode M_Mod_unpack.2.1 21 = .ok (.iconst 0, 1) := by decide +kernel
theorem d_Mod_unpack_22 : decode M_Mod_unpack.2.1 22 = .ok (.putfield 86, 3) := by decide +kernel
theorem d_Mod_unpack_25 : decode M_Mod_unpack.2.1 25 = .ok (.iconst 0, 1) := by decide +kernel
theorem d_Mod_unpack_26 : decode M_Mod_unpack.2.1 26 = .ok (.istore_n 1, 1) := by decide +kernel
theorem d_Mod_unpack_27 : decode M_Mod_unpack.2.1 27 = .ok (.iconst 1, 1) := by decide +kernel
theorem d_Mod_unpack_28 : decode M_Mod_unpack.2.1 28 = .ok (.istore_n 2, 1) := by decide +kernel
theorem d_Mod_unpack_29 : decode M_Mod_unpack.2.1 29 = .ok (.iload_n 2, 1) := by decide +kernel
theorem d_Mod_unpack_30 : decode M_Mod_unpack.2.1 30 = .ok (.ifCond .eq 47, 3) := by decide +kernel
theorem d_Mod_unpack_33 : decode M_Mod_unpack.2.1 33 = .ok (.iload_n 1, 1) := by decide +kernel
theorem d_Mod_unpack_34 : decode M_Mod_unpack.2.1 34 = .ok (.aload_n 0, 1) := by decide +kernel
theorem d_Mod_unpack_35 : decode M_Mod_unpack.2.1 35 = .ok (.invokevirtual 291, 3) := by decide +kernel
theorem d_Mod_unpack_38 : decode M_Mod_unpack.2.1 38 = .ok (.iadd, 1) := by decide +kernel
theorem d_Mod_unpack_39 : decode M_Mod_unpack.2.1 39 = .ok (.istore_n 1, 1) := by decide +kernel
theorem d_Mod_unpack_40 : decode M_Mod_unpack.2.1 40 = .ok (.aload_n 0, 1) := by decide +kernel
theorem d_Mod_unpack_41 : decode M_Mod_unpack.2.1 41 = .ok (.getfield 231, 3) := by decide +kernel
theorem d_Mod_unpack_44 : decode M_Mod_unpack.2.1 44 = .ok (.ifCond .ne 28, 3) := by decide +kernel
theorem d_Mod_unpack_47 : decode M_Mod_unpack.2.1 47 = .ok (.aload_n 0, 1) := by decide +kernel
theorem d_Mod_unpack_48 : decode M_Mod_unpack.2.1 48 = .ok (.getfield 75, 3) := by decide +kernel
theorem d_Mod_unpack_51 : decode M_Mod_unpack.2.1 51 = .ok (.ifCond .ne 21, 3) := by decide +kernel
theorem d_Mod_unpack_54 : decode M_Mod_unpack.2.1 54 = .ok (.aload_n 0, 1) := by decide +kernel
theorem d_Mod_unpack_55 : decode M_Mod_unpack.2.1 55 = .ok (.getfield 237, 3) := by decide +kernel
theorem d_Mod_unpack_58 : decode M_Mod_unpack.2.1 58 = .ok (.bipush 8, 2) := by decide +kernel
theorem d_Mod_unpack_60 : decode M_Mod_unpack.2.1 60 = .ok (.aload_n 0, 1) := by decide +kernel
theorem d_Mod_unpack_61 : decode M_Mod_unpack.2.1 61 = .ok (.getfield 78, 3) := by decide +kernel
theorem d_Mod_unpack_64 : decode M_Mod_unpack.2.1 64 = .ok (.imul, 1) := by decide +kernel
theorem d_Mod_unpack_65 : decode M_Mod_unpack.2.1 65 = .ok (.if_icmp .ge 7, 3) := by decide +kernel
theorem d_Mod_unpack_68 : decode M_Mod_unpack.2.1 68 = .ok (.iconst 1, 1) := by decide +kernel
theorem d_Mod_unpack_69 : decode M_Mod_unpack.2.1 69 = .ok (.goto 4, 3) := by decide +kernel
theorem d_Mod_unpack_72 : decode M_Mod_unpack.2.1 72 = .ok (.iconst 0, 1) := by decide +kernel
theorem d_Mod_unpack_73 : decode M_Mod_unpack.2.1 73 = .ok (.istore_n 2, 1) := by decide +kernel
theorem d_Mod_unpack_74 : decode M_Mod_unpack.2.1 74 = .ok (.goto (-45), 3) := by decide +kernel
theorem d_Mod_unpack_77 : decode M_Mod_unpack.2.1 77 = .ok (.aload_n 0, 1) := by decide +kernel
theorem d_Mod_unpack_78 : decode M_Mod_unpack.2.1 78 = .ok (.getfield 75, 3) := by decide +kernel
theorem d_Mod_unpack_81 : decode M_Mod_unpack.2.1 81 = .ok (.ifCond .eq 5, 3) := by decide +kernel
theorem d_Mod_unpack_84 : decode M_Mod_unpack.2.1 84 = .ok (.iconst 0, 1) := by decide +kernel
theorem d_Mod_unpack_85 : decode M_Mod_unpack.2.1 85 = .ok (.ireturn, 1) := by decide +kernel
theorem d_Mod_unpack_86 : decode M_Mod_unpack.2.1 86 = .ok (.aload_n 0, 1) := by decide +kernel
theorem d_Mod_unpack_87 : decode M_Mod_unpack.2.1 87 = .ok (.getfield 231, 3) := by decide +kernel
theorem d_Mod_unpack_90 : decode M_Mod_unpack.2.1 90 = .ok (.ifCond .eq 16, 3) := by decide +kernel
theorem d_Mod_unpack_93 : decode M_Mod_unpack.2.1 93 = .ok (.aload_n 0, 1) := by decide +kernel
theorem d_Mod_unpack_94 : decode M_Mod_unpack.2.1 94 = .ok (.aload_n 0, 1) := by decide +kernel
theorem d_Mod_unpack_95 : decode M_Mod_unpack.2.1 95 = .ok (.getfield 234, 3) := by decide +kernel
theorem d_Mod_unpack_98 : decode M_Mod_unpack.2.1 98 = .ok (.putfield 19, 3) := by decide +kernel
theorem d_Mod_unpack_101 : decode M_Mod_unpack.2.1 101 = .ok (.aload_n 0, 1) := by decide +kernel
theorem d_Mod_unpack_102 : decode M_Mod_unpack.2.1 102 = .ok (.getfield 231, 3) := by decide +kernel
theorem d_Mod_unpack_105 : decode M_Mod_unpack.2.1 105 = .ok (.ireturn, 1) := by decide +kernel
theorem d_Mod_unpack_106 : decode M_Mod_unpack.2.1 106 = .ok (.aload_n 0, 1) := by decide +kernel
theorem d_Mod_unpack_107 : decode M_Mod_unpack.2.1 107 = .ok (.invokevirtual 228, 3) := by decide +kernel
theorem d_Mod_unpack_110 : decode M_Mod_unpack.2.1 110 = .ok (.aload_n 0, 1) := by decide +kernel
theorem d_Mod_unpack_111 : decode M_Mod_unpack.2.1 111 = .ok (.iload_n 1, 1) := by decide +kernel
theorem d_Mod_unpack_112 : decode M_Mod_unpack.2.1 112 = .ok (.putfield 215, 3) := by decide +kernel
theorem d_Mod_unpack_115 : decode M_Mod_unpack.2.1 115 = .ok (.iload_n 1, 1) := by decide +kernel
theorem d_Mod_unpack_116 : decode M_Mod_unpack.2.1 116 = .ok (.ifCond .le 7, 3) := by decide +kernel
theorem d_Mod_unpack_119 : decode M_Mod_unpack.2.1 119 = .ok (.aload_n 0, 1) := by decide +kernel
theorem d_Mod_unpack_120 : decode M_Mod_unpack.2.1 120 = .ok (.invokevirtual 224, 3) := by decide +kernel
theorem d_Mod_unpack_123 : decode M_Mod_unpack.2.1 123 = .ok (.aload_n 0, 1) := by decide +kernel
theorem d_Mod_unpack_124 : decode M_Mod_unpack.2.1 124 = .ok (.getfield 83, 3) := by decide +kernel
theorem d_Mod_unpack_127 : decode M_Mod_unpack.2.1 127 = .ok (.ireturn, 1) := by decide +kernel
theorem d_Mod_at_0 : decode M_Mod_at.2.1 0 = .ok (.aload_n 0, 1) := by decide +kernel
theorem d_Mod_at_1 : decode M_Mod_at.2.1 1 = .ok (.iconst 0, 1) := by decide +kernel
theorem d_Mod_at_2 : decode M_Mod_at.2.1 2 = .ok (.putfield 75, 3) := by decide +kernel
theorem d_Mod_at_5 : decode M_Mod_at.2.1 5 = .ok (.aload_n 0, 1) := by decide +kernel
theorem d_Mod_at_6 : decode M_Mod_at.2.1 6 = .ok (.getfield 19, 3) := by decide +kernel
theorem d_Mod_at_9 : decode M_Mod_at.2.1 9 = .ok (.ireturn, 1) := by decide +kernel
theorem d_Mod_rescue_0 : decode M_Mod_rescue.2.1 0 = .ok (.aload_n 0, 1) := by decide +kernel
theorem d_Mod_rescue_1 : decode M_Mod_rescue.2.1 1 = .ok (.iconst 0, 1) := by decide +kernel
theorem d_Mod_rescue_2 : decode M_Mod_rescue.2.1 2 = .ok (.putfield 75, 3) := by decide +kernel
theorem d_Mod_rescue_5 : decode M_Mod_rescue.2.1 5 = .ok (.aload_n 0, 1) := by decide +kernel
theorem d_Mod_rescue_6 : decode M_Mod_rescue.2.1 6 = .ok (.iconst 0, 1) := by decide +kernel
theorem d_Mod_rescue_7 : decode M_Mod_rescue.2.1 7 = .ok (.putfield 86, 3) := by decide +kernel
theorem d_Mod_rescue_10 : decode M_Mod_rescue.2.1 10 = .ok (.aload_n 0, 1) := by decide +kernel
theorem d_Mod_rescue_11 : decode M_Mod_rescue.2.1 11 = .ok (.iconst 0, 1) := by decide +kernel
theorem d_Mod_rescue_12 : decode M_Mod_rescue.2.1 12 = .ok (.putfield 215, 3) := by decide +kernel
theorem d_Mod_rescue_15 : decode M_Mod_rescue.2.1 15 = .ok (.iconst 0, 1) := by decide +kernel
theorem d_Mod_rescue_16 : decode M_Mod_rescue.2.1 16 = .ok (.istore_n 1, 1) := by decide +kernel
theorem d_Mod_rescue_17 : decode M_Mod_rescue.2.1 17 = .ok (.iload_n 1, 1) := by decide +kernel
theorem d_Mod_rescue_18 : decode M_Mod_rescue.2.1 18 = .ok (.bipush 24, 2) := by decide +kernel
theorem d_Mod_rescue_20 : decode M_Mod_rescue.2.1 20 = .ok (.iadd, 1) := by decide +kernel
theorem d_Mod_rescue_21 : decode M_Mod_rescue.2.1 21 = .ok (.bipush 8, 2) := by decide +kernel
theorem d_Mod_rescue_23 : decode M_Mod_rescue.2.1 23 = .ok (.aload_n 0, 1) := by decide +kernel
theorem d_Mod_rescue_24 : decode M_Mod_rescue.2.1 24 = .ok (.getfield 78, 3) := by decide +kernel
theorem d_Mod_rescue_27 : decode M_Mod_rescue.2.1 27 = .ok (.imul, 1) := by decide +kernel
theorem d_Mod_rescue_28 : decode M_Mod_rescue.2.1 28 = .ok (.if_icmp .gt 112, 3) := by decide +kernel
theorem d_Mod_rescue_31 : decode M_Mod_rescue.2.1 31 = .ok (.aload_n 0, 1) := by decide +kernel
theorem d_Mod_rescue_32 : decode M_Mod_rescue.2.1 32 = .ok (.iload_n 1, 1) := by decide +kernel
theorem d_Mod_rescue_33 : decode M_Mod_rescue.2.1 33 = .ok (.putfield 237, 3) := by decide +kernel
theorem d_Mod_rescue_36 : decode M_Mod_rescue.2.1 36 = .ok (.aload_n 0, 1) := by decide +kernel
theorem d_Mod_rescue_37 : decode M_Mod_rescue.2.1 37 = .ok (.iconst 0, 1) := by decide +kernel
theorem d_Mod_rescue_38 : decode M_Mod_rescue.2.1 38 = .ok (.putfield 231, 3) := by decide +kernel
theorem d_Mod_rescue_41 : decode M_Mod_rescue.2.1 41 = .ok (.aload_n 0, 1) := by decide +kernel
theorem d_Mod_rescue_42 : decode M_Mod_rescue.2.1 42 = .ok (.bipush 24, 2) := by decide +kernel
theorem d_Mod_rescue_44 : decode M_Mod_rescue.2.1 44 = .ok (.iload_n 1, 1) := by decide +kernel
theorem d_Mod_rescue_45 : decode M_Mod_rescue.2.1 45 = .ok (.invokevirtual 243, 3) := by decide +kernel
theorem d_Mod_rescue_48 : decode M_Mod_rescue.2.1 48 = .ok (.ldc 162, 2) := by decide +kernel
theorem d_Mod_rescue_50 : decode M_Mod_rescue.2.1 50 = .ok (.if_icmp .ne 7, 3) := by decide +kernel
theorem d_Mod_rescue_53 : decode M_Mod_rescue.2.1 53 = .ok (.iconst 1, 1) := by decide +kernel
theorem d_Mod_rescue_54 : decode M_Mod_rescue.2.1 54 = .ok (.goto 4, 3) := by decide +kernel
theorem d_Mod_rescue_57 : decode M_Mod_rescue.2.1 57 = .ok (.iconst 0, 1) := by decide +kernel
theorem d_Mod_rescue_58 : decode M_Mod_rescue.2.1 58 = .ok (.istore_n 2, 1) := by decide +kernel
theorem d_Mod_rescue_59 : decode M_Mod_rescue.2.1 59 = .ok (.iload_n 2, 1) := by decide +kernel
theorem d_Mod_rescue_60 : decode M_Mod_rescue.2.1 60 = .ok (.ifCond .eq 40, 3) := by decide +kernel
theorem d_Mod_rescue_63 : decode M_Mod_rescue.2.1 63 = .ok (.aload_n 0, 1) := by decide +kernel
theorem d_Mod_rescue_64 : decode M_Mod_rescue.2.1 64 = .ok (.bipush 64, 2) := by decide +kernel
theorem d_Mod_rescue_66 : decode M_Mod_rescue.2.1 66 = .ok (.invokevirtual 282, 3) := by decide +kernel
theorem d_Mod_rescue_69 : decode M_Mod_rescue.2.1 69 = .ok (.aload_n 0, 1) := by decide +kernel
theorem d_Mod_rescue_70 : decode M_Mod_rescue.2.1 70 = .ok (.getfield 231, 3) := by decide +kernel
theorem d_Mod_rescue_73 : decode M_Mod_rescue.2.1 73 = .ok (.ifCond .ne 25, 3) := by decide +kernel
theorem d_Mod_rescue_76 : decode M_Mod_rescue.2.1 76 = .ok (.aload_n 0, 1) := by decide +kernel
theorem d_Mod_rescue_77 : decode M_Mod_rescue.2.1 77 = .ok (.invokevirtual 285, 3) := by decide +kernel
theorem d_Mod_rescue_80 : decode M_Mod_rescue.2.1 80 = .ok (.ifCond .ne 18, 3) := by decide +kernel
theorem d_Mod_rescue_83 : decode M_Mod_rescue.2.1 83 = .ok (.aload_n 0, 1) := by decide +kernel
theorem d_Mod_rescue_84 : decode M_Mod_rescue.2.1 84 = .ok (.invokevirtual 178, 3) := by decide +kernel
theorem d_Mod_rescue_87 : decode M_Mod_rescue.2.1 87 = .ok (.aload_n 0, 1) := by decide +kernel
theorem d_Mod_rescue_88 : decode M_Mod_rescue.2.1 88 = .ok (.getfield 163, 3) := by decide +kernel
theorem d_Mod_rescue_91 : decode M_Mod_rescue.2.1 91 = .ok (.if_icmp .ne 7, 3) := by decide +kernel
theorem d_Mod_rescue_94 : decode M_Mod_rescue.2.1 94 = .ok (.iconst 1, 1) := by decide +kernel
theorem d_Mod_rescue_95 : decode M_Mod_rescue.2.1 95 = .ok (.goto 4, 3) := by decide +kernel
theorem d_Mod_rescue_98 : decode M_Mod_rescue.2.1 98 = .ok (.iconst 0, 1) := by decide +kernel
theorem d_Mod_rescue_99 : decode M_Mod_rescue.2.1 99 = .ok (.istore_n 2, 1) := by decide +kernel
theorem d_Mod_rescue_100 : decode M_Mod_rescue.2.1 100 = .ok (.iload_n 2, 1) := by decide +kernel
theorem d_Mod_rescue_101 : decode M_Mod_rescue.2.1 101 = .ok (.ifCond .eq 21, 3) := by decide +kernel
theorem d_Mod_rescue_104 : decode M_Mod_rescue.2.1 104 = .ok (.aload_n 0, 1) := by decide +kernel
theorem d_Mod_rescue_105 : decode M_Mod_rescue.2.1 105 = .ok (.invokevirtual 288, 3) := by decide +kernel
theorem d_Mod_rescue_108 : decode M_Mod_rescue.2.1 108 = .ok (.aload_n 0, 1) := by decide +kernel
theorem d_Mod_rescue_109 : decode M_Mod_rescue.2.1 109 = .ok (.invokevirtual 224, 3) := by decide +kernel
theorem d_Mod_rescue_112 : decode M_Mod_rescue.2.1 112 = .ok (.aload_n 0, 1) := by decide +kernel
theorem d_Mod_rescue_113 : decode M_Mod_rescue.2.1 113 = .ok (.dup, 1) := by decide +kernel
theorem d_Mod_rescue_114 : decode M_Mod_rescue.2.1 114 = .ok (.getfield 215, 3) := by decide +kernel
theorem d_Mod_rescue_117 : decode M_Mod_rescue.2.1 117 = .ok (.iconst 1, 1) := by decide +kernel
theorem d_Mod_rescue_118 : decode M_Mod_rescue.2.1 118 = .ok (.iadd, 1) := by decide +kernel
theorem d_Mod_rescue_119 : decode M_Mod_rescue.2.1 119 = .ok (.putfield 215, 3) := by decide +kernel
theorem d_Mod_rescue_122 : decode M_Mod_rescue.2.1 122 = .ok (.iload_n 2, 1) := by decide +kernel
theorem d_Mod_rescue_123 : decode M_Mod_rescue.2.1 123 = .ok (.ifCond .eq 10, 3) := by decide +kernel
theorem d_Mod_rescue_126 : decode M_Mod_rescue.2.1 126 = .ok (.aload_n 0, 1) := by decide +kernel
theorem d_Mod_rescue_127 : decode M_Mod_rescue.2.1 127 = .ok (.getfield 237, 3) := by decide +kernel
theorem d_Mod_rescue_130 : decode M_Mod_rescue.2.1 130 = .ok (.goto 6, 3) := by decide +kernel
theorem d_Mod_rescue_133 : decode M_Mod_rescue.2.1 133 = .ok (.iload_n 1, 1) := by decide +kernel
theorem d_Mod_rescue_134 : decode M_Mod_rescue.2.1 134 = .ok (.iconst 1, 1) := by decide +kernel
theorem d_Mod_rescue_135 : decode M_Mod_rescue.2.1 135 = .ok (.iadd, 1) := by decide +kernel
theorem d_Mod_rescue_136 : decode M_Mod_rescue.2.1 136 = .ok (.istore_n 1, 1) := by decide +kernel
theorem d_Mod_rescue_137 : decode M_Mod_rescue.2.1 137 = .ok (.goto (-120), 3) := by decide +kernel
theorem d_Mod_rescue_140 : decode M_Mod_rescue.2.1 140 = .ok (.aload_n 0, 1) := by decide +kernel
theorem d_Mod_rescue_141 : decode M_Mod_rescue.2.1 141 = .ok (.invokevirtual 228, 3) := by decide +kernel
theorem d_Mod_rescue_144 : decode M_Mod_rescue.2.1 144 = .ok (.aload_n 0, 1) := by decide +kernel
theorem d_Mod_rescue_145 : decode M_Mod_rescue.2.1 145 = .ok (.getfield 215, 3) := by decide +kernel
theorem d_Mod_rescue_148 : decode M_Mod_rescue.2.1 148 = .ok (.ireturn, 1) := by decide +kernel
theorem d_Mod_given_0 : decode M_Mod_given.2.1 0 = .ok (.aload_n 0, 1) := by decide +kernel
theorem d_Mod_given_1 : decode M_Mod_given.2.1 1 = .ok (.iconst 0, 1) := by decide +kernel
theorem d_Mod_given_2 : decode M_Mod_given.2.1 2 = .ok (.putfield 75, 3) := by decide +kernel
theorem d_Mod_given_5 : decode M_Mod_given.2.1 5 = .ok (.aload_n 0, 1) := by decide +kernel
theorem d_Mod_given_6 : decode M_Mod_given.2.1 6 = .ok (.getfield 78, 3) := by decide +kernel
theorem d_Mod_given_9 : decode M_Mod_given.2.1 9 = .ok (.ireturn, 1) := by decide +kernel
theorem d_Mod_size_0 : decode M_Mod_size.2.1 0 = .ok (.aload_n 0, 1) := by decide +kernel
theorem d_Mod_size_1 : decode M_Mod_size.2.1 1 = .ok (.iconst 0, 1) := by decide +kernel
theorem d_Mod_size_2 : decode M_Mod_size.2.1 2 = .ok (.putfield 75, 3) := by decide +kernel
theorem d_Mod_size_5 : decode M_Mod_size.2.1 5 = .ok (.aload_n 0, 1) := by decide +kernel
theorem d_Mod_size_6 : decode M_Mod_size.2.1 6 = .ok (.getfield 83, 3) := by decide +kernel
theorem d_Mod_size_9 : decode M_Mod_size.2.1 9 = .ok (.ireturn, 1) := by decide +kernel
theorem d_Mod_out_0 : decode M_Mod_out.2.1 0 = .ok (.aload_n 0, 1) := by decide +kernel
theorem d_Mod_out_1 : decode M_Mod_out.2.1 1 = .ok (.iload_n 1, 1) := by decide +kernel
theorem d_Mod_out_2 : decode M_Mod_out.2.1 2 = .ok (.ifCond .lt 11, 3) := by decide +kernel
theorem d_Mod_out_5 : decode M_Mod_out.2.1 5 = .ok (.iload_n 1, 1) := by decide +kernel
theorem d_Mod_out_6 : decode M_Mod_out.2.1 6 = .ok (.aload_n 0, 1) := by decide +kernel
theorem d_Mod_out_7 : decode M_Mod_out.2.1 7 = .ok (.getfield 83, 3) := by decide +kernel
theorem d_Mod_out_10 : decode M_Mod_out.2.1 10 = .ok (.if_icmp .lt 7, 3) := by decide +kernel
theorem d_Mod_out_13 : decode M_Mod_out.2.1 13 = .ok (.iconst 1, 1) := by decide +kernel
theorem d_Mod_out_14 : decode M_Mod_out.2.1 14 = .ok (.goto 4, 3) := by decide +kernel
theorem d_Mod_out_17 : decode M_Mod_out.2.1 17 = .ok (.iconst 0, 1) := by decide +kernel
theorem d_Mod_out_18 : decode M_Mod_out.2.1 18 = .ok (.putfield 75, 3) := by decide +kernel
theorem d_Mod_out_21 : decode M_Mod_out.2.1 21 = .ok (.aload_n 0, 1) := by decide +kernel
theorem d_Mod_out_22 : decode M_Mod_out.2.1 22 = .ok (.getfield 75, 3) := by decide +kernel
theorem d_Mod_out_25 : decode M_Mod_out.2.1 25 = .ok (.ifCond .ne 12, 3) := by decide +kernel
theorem d_Mod_out_28 : decode M_Mod_out.2.1 28 = .ok (.aload_n 0, 1) := by decide +kernel
theorem d_Mod_out_29 : decode M_Mod_out.2.1 29 = .ok (.getfield 13, 3) := by decide +kernel
theorem d_Mod_out_32 : decode M_Mod_out.2.1 32 = .ok (.iload_n 1, 1) := by decide +kernel
theorem d_Mod_out_33 : decode M_Mod_out.2.1 33 = .ok (.iaload, 1) := by decide +kernel
theorem d_Mod_out_34 : decode M_Mod_out.2.1 34 = .ok (.goto 4, 3) := by decide +kernel
theorem d_Mod_out_37 : decode M_Mod_out.2.1 37 = .ok (.iconst 0, 1) := by decide +kernel
theorem d_Mod_out_38 : decode M_Mod_out.2.1 38 = .ok (.ireturn, 1) := by decide +kernel
theorem d_Mod_blocks_0 : decode M_Mod_blocks.2.1 0 = .ok (.aload_n 0, 1) := by decide +kernel
theorem d_Mod_blocks_1 : decode M_Mod_blocks.2.1 1 = .ok (.iconst 0, 1) := by decide +kernel
theorem d_Mod_blocks_2 : decode M_Mod_blocks.2.1 2 = .ok (.putfield 75, 3) := by decide +kernel
theorem d_Mod_blocks_5 : decode M_Mod_blocks.2.1 5 = .ok (.aload_n 0, 1) := by decide +kernel
theorem d_Mod_blocks_6 : decode M_Mod_blocks.2.1 6 = .ok (.getfield 215, 3) := by decide +kernel
theorem d_Mod_blocks_9 : decode M_Mod_blocks.2.1 9 = .ok (.ireturn, 1) := by decide +kernel
theorem d_Mod_block_0 : decode M_Mod_block.2.1 0 = .ok (.aload_n 0, 1) := by decide +kernel
theorem d_Mod_block_1 : decode M_Mod_block.2.1 1 = .ok (.iconst 0, 1) := by decide +kernel
theorem d_Mod_block_2 : decode M_Mod_block.2.1 2 = .ok (.putfield 75, 3) := by decide +kernel
theorem d_Mod_block_5 : decode M_Mod_block.2.1 5 = .ok (.aload_n 0, 1) := by decide +kernel
end
section
theorem d_Mod_block_6 : decode M_Mod_block.2.1 6 = .ok (.getfield 215, 3) := by decide +kernel
theorem d_Mod_block_9 : decode M_Mod_block.2.1 9 = .ok (.ifCond .ne 5, 3) := by decide +kernel
theorem d_Mod_block_12 : decode M_Mod_block.2.1 12 = .ok (.iconst (-1), 1) := by decide +kernel
theorem d_Mod_block_13 : decode M_Mod_block.2.1 13 = .ok (.ireturn, 1) := by decide +kernel
theorem d_Mod_block_14 : decode M_Mod_block.2.1 14 = .ok (.iload_n 1, 1) := by decide +kernel
theorem d_Mod_block_15 : decode M_Mod_block.2.1 15 = .ok (.ifCond .ne 10, 3) := by decide +kernel
theorem d_Mod_block_18 : decode M_Mod_block.2.1 18 = .ok (.aload_n 0, 1) := by decide +kernel
theorem d_Mod_block_19 : decode M_Mod_block.2.1 19 = .ok (.getfield 194, 3) := by decide +kernel
theorem d_Mod_block_22 : decode M_Mod_block.2.1 22 = .ok (.goto 52, 3) := by decide +kernel
theorem d_Mod_block_25 : decode M_Mod_block.2.1 25 = .ok (.iload_n 1, 1) := by decide +kernel
theorem d_Mod_block_26 : decode M_Mod_block.2.1 26 = .ok (.iconst 1, 1) := by decide +kernel
theorem d_Mod_block_27 : decode M_Mod_block.2.1 27 = .ok (.if_icmp .ne 10, 3) := by decide +kernel
theorem d_Mod_block_30 : decode M_Mod_block.2.1 30 = .ok (.aload_n 0, 1) := by decide +kernel
theorem d_Mod_block_31 : decode M_Mod_block.2.1 31 = .ok (.getfield 197, 3) := by decide +kernel
theorem d_Mod_block_34 : decode M_Mod_block.2.1 34 = .ok (.goto 40, 3) := by decide +kernel
theorem d_Mod_block_37 : decode M_Mod_block.2.1 37 = .ok (.iload_n 1, 1) := by decide +kernel
theorem d_Mod_block_38 : decode M_Mod_block.2.1 38 = .ok (.iconst 2, 1) := by decide +kernel
theorem d_Mod_block_39 : decode M_Mod_block.2.1 39 = .ok (.if_icmp .ne 10, 3) := by decide +kernel
theorem d_Mod_block_42 : decode M_Mod_block.2.1 42 = .ok (.aload_n 0, 1) := by decide +kernel
theorem d_Mod_block_43 : decode M_Mod_block.2.1 43 = .ok (.getfield 200, 3) := by decide +kernel
theorem d_Mod_block_46 : decode M_Mod_block.2.1 46 = .ok (.goto 28, 3) := by decide +kernel
theorem d_Mod_block_49 : decode M_Mod_block.2.1 49 = .ok (.iload_n 1, 1) := by decide +kernel
theorem d_Mod_block_50 : decode M_Mod_block.2.1 50 = .ok (.iconst 3, 1) := by decide +kernel
theorem d_Mod_block_51 : decode M_Mod_block.2.1 51 = .ok (.if_icmp .ne 10, 3) := by decide +kernel
theorem d_Mod_block_54 : decode M_Mod_block.2.1 54 = .ok (.aload_n 0, 1) := by decide +kernel
theorem d_Mod_block_55 : decode M_Mod_block.2.1 55 = .ok (.getfield 203, 3) := by decide +kernel
theorem d_Mod_block_58 : decode M_Mod_block.2.1 58 = .ok (.goto 16, 3) := by decide +kernel
theorem d_Mod_block_61 : decode M_Mod_block.2.1 61 = .ok (.iload_n 1, 1) := by decide +kernel
theorem d_Mod_block_62 : decode M_Mod_block.2.1 62 = .ok (.iconst 4, 1) := by decide +kernel
theorem d_Mod_block_63 : decode M_Mod_block.2.1 63 = .ok (.if_icmp .ne 10, 3) := by decide +kernel
theorem d_Mod_block_66 : decode M_Mod_block.2.1 66 = .ok (.aload_n 0, 1) := by decide +kernel
theorem d_Mod_block_67 : decode M_Mod_block.2.1 67 = .ok (.getfield 212, 3) := by decide +kernel
theorem d_Mod_block_70 : decode M_Mod_block.2.1 70 = .ok (.goto 4, 3) := by decide +kernel
theorem d_Mod_block_73 : decode M_Mod_block.2.1 73 = .ok (.iconst (-1), 1) := by decide +kernel
theorem d_Mod_block_74 : decode M_Mod_block.2.1 74 = .ok (.ireturn, 1) := by decide +kernel
theorem d_Mod_last_0 : decode M_Mod_last.2.1 0 = .ok (.aload_n 0, 1) := by decide +kernel
theorem d_Mod_last_1 : decode M_Mod_last.2.1 1 = .ok (.iconst 0, 1) := by decide +kernel
theorem d_Mod_last_2 : decode M_Mod_last.2.1 2 = .ok (.putfield 75, 3) := by decide +kernel
theorem d_Mod_last_5 : decode M_Mod_last.2.1 5 = .ok (.aload_n 0, 1) := by decide +kernel
theorem d_Mod_last_6 : decode M_Mod_last.2.1 6 = .ok (.getfield 215, 3) := by decide +kernel
theorem d_Mod_last_9 : decode M_Mod_last.2.1 9 = .ok (.ifCond .eq 15, 3) := by decide +kernel
theorem d_Mod_last_12 : decode M_Mod_last.2.1 12 = .ok (.iload_n 1, 1) := by decide +kernel
theorem d_Mod_last_13 : decode M_Mod_last.2.1 13 = .ok (.ifCond .lt 11, 3) := by decide +kernel
theorem d_Mod_last_16 : decode M_Mod_last.2.1 16 = .ok (.iload_n 1, 1) := by decide +kernel
theorem d_Mod_last_17 : decode M_Mod_last.2.1 17 = .ok (.aload_n 0, 1) := by decide +kernel
theorem d_Mod_last_18 : decode M_Mod_last.2.1 18 = .ok (.getfield 197, 3) := by decide +kernel
theorem d_Mod_last_21 : decode M_Mod_last.2.1 21 = .ok (.if_icmp .lt 7, 3) := by decide +kernel
theorem d_Mod_last_24 : decode M_Mod_last.2.1 24 = .ok (.iconst (-1), 1) := by decide +kernel
theorem d_Mod_last_25 : decode M_Mod_last.2.1 25 = .ok (.goto 9, 3) := by decide +kernel
theorem d_Mod_last_28 : decode M_Mod_last.2.1 28 = .ok (.aload_n 0, 1) := by decide +kernel
theorem d_Mod_last_29 : decode M_Mod_last.2.1 29 = .ok (.getfield 63, 3) := by decide +kernel
theorem d_Mod_last_32 : decode M_Mod_last.2.1 32 = .ok (.iload_n 1, 1) := by decide +kernel
theorem d_Mod_last_33 : decode M_Mod_last.2.1 33 = .ok (.iaload, 1) := by decide +kernel
theorem d_Mod_last_34 : decode M_Mod_last.2.1 34 = .ok (.ireturn, 1) := by decide +kernel
theorem d_Mod_symbol_0 : decode M_Mod_symbol.2.1 0 = .ok (.aload_n 0, 1) := by decide +kernel
theorem d_Mod_symbol_1 : decode M_Mod_symbol.2.1 1 = .ok (.iconst 0, 1) := by decide +kernel
theorem d_Mod_symbol_2 : decode M_Mod_symbol.2.1 2 = .ok (.putfield 75, 3) := by decide +kernel
theorem d_Mod_symbol_5 : decode M_Mod_symbol.2.1 5 = .ok (.aload_n 0, 1) := by decide +kernel
theorem d_Mod_symbol_6 : decode M_Mod_symbol.2.1 6 = .ok (.getfield 215, 3) := by decide +kernel
theorem d_Mod_symbol_9 : decode M_Mod_symbol.2.1 9 = .ok (.ifCond .eq 15, 3) := by decide +kernel
theorem d_Mod_symbol_12 : decode M_Mod_symbol.2.1 12 = .ok (.iload_n 1, 1) := by decide +kernel
theorem d_Mod_symbol_13 : decode M_Mod_symbol.2.1 13 = .ok (.ifCond .lt 11, 3) := by decide +kernel
theorem d_Mod_symbol_16 : decode M_Mod_symbol.2.1 16 = .ok (.iload_n 1, 1) := by decide +kernel
theorem d_Mod_symbol_17 : decode M_Mod_symbol.2.1 17 = .ok (.aload_n 0, 1) := by decide +kernel
theorem d_Mod_symbol_18 : decode M_Mod_symbol.2.1 18 = .ok (.getfield 200, 3) := by decide +kernel
theorem d_Mod_symbol_21 : decode M_Mod_symbol.2.1 21 = .ok (.if_icmp .lt 7, 3) := by decide +kernel
theorem d_Mod_symbol_24 : decode M_Mod_symbol.2.1 24 = .ok (.iconst (-1), 1) := by decide +kernel
theorem d_Mod_symbol_25 : decode M_Mod_symbol.2.1 25 = .ok (.goto 9, 3) := by decide +kernel
theorem d_Mod_symbol_28 : decode M_Mod_symbol.2.1 28 = .ok (.aload_n 0, 1) := by decide +kernel
theorem d_Mod_symbol_29 : decode M_Mod_symbol.2.1 29 = .ok (.getfield 66, 3) := by decide +kernel
theorem d_Mod_symbol_32 : decode M_Mod_symbol.2.1 32 = .ok (.iload_n 1, 1) := by decide +kernel
theorem d_Mod_symbol_33 : decode M_Mod_symbol.2.1 33 = .ok (.iaload, 1) := by decide +kernel
theorem d_Mod_symbol_34 : decode M_Mod_symbol.2.1 34 = .ok (.ireturn, 1) := by decide +kernel
theorem d_Mod_length_0 : decode M_Mod_length.2.1 0 = .ok (.aload_n 0, 1) := by decide +kernel
theorem d_Mod_length_1 : decode M_Mod_length.2.1 1 = .ok (.iconst 0, 1) := by decide +kernel
theorem d_Mod_length_2 : decode M_Mod_length.2.1 2 = .ok (.putfield 75, 3) := by decide +kernel
theorem d_Mod_length_5 : decode M_Mod_length.2.1 5 = .ok (.aload_n 0, 1) := by decide +kernel
theorem d_Mod_length_6 : decode M_Mod_length.2.1 6 = .ok (.getfield 215, 3) := by decide +kernel
theorem d_Mod_length_9 : decode M_Mod_length.2.1 9 = .ok (.ifCond .eq 29, 3) := by decide +kernel
theorem d_Mod_length_12 : decode M_Mod_length.2.1 12 = .ok (.iload_n 1, 1) := by decide +kernel
theorem d_Mod_length_13 : decode M_Mod_length.2.1 13 = .ok (.ifCond .lt 25, 3) := by decide +kernel
theorem d_Mod_length_16 : decode M_Mod_length.2.1 16 = .ok (.iload_n 1, 1) := by decide +kernel
theorem d_Mod_length_17 : decode M_Mod_length.2.1 17 = .ok (.aload_n 0, 1) := by decide +kernel
theorem d_Mod_length_18 : decode M_Mod_length.2.1 18 = .ok (.getfield 203, 3) := by decide +kernel
theorem d_Mod_length_21 : decode M_Mod_length.2.1 21 = .ok (.if_icmp .ge 17, 3) := by decide +kernel
theorem d_Mod_length_24 : decode M_Mod_length.2.1 24 = .ok (.iload_n 2, 1) := by decide +kernel
theorem d_Mod_length_25 : decode M_Mod_length.2.1 25 = .ok (.ifCond .lt 13, 3) := by decide +kernel
theorem d_Mod_length_28 : decode M_Mod_length.2.1 28 = .ok (.iload_n 2, 1) := by decide +kernel
theorem d_Mod_length_29 : decode M_Mod_length.2.1 29 = .ok (.aload_n 0, 1) := by decide +kernel
theorem d_Mod_length_30 : decode M_Mod_length.2.1 30 = .ok (.getfield 209, 3) := by decide +kernel
theorem d_Mod_length_33 : decode M_Mod_length.2.1 33 = .ok (.iconst 2, 1) := by decide +kernel
theorem d_Mod_length_34 : decode M_Mod_length.2.1 34 = .ok (.iadd, 1) := by decide +kernel
theorem d_Mod_length_35 : decode M_Mod_length.2.1 35 = .ok (.if_icmp .lt 7, 3) := by decide +kernel
theorem d_Mod_length_38 : decode M_Mod_length.2.1 38 = .ok (.iconst (-1), 1) := by decide +kernel
theorem d_Mod_length_39 : decode M_Mod_length.2.1 39 = .ok (.goto 15, 3) := by decide +kernel
theorem d_Mod_length_42 : decode M_Mod_length.2.1 42 = .ok (.aload_n 0, 1) := by decide +kernel
theorem d_Mod_length_43 : decode M_Mod_length.2.1 43 = .ok (.getfield 69, 3) := by decide +kernel
theorem d_Mod_length_46 : decode M_Mod_length.2.1 46 = .ok (.sipush 260, 3) := by decide +kernel
theorem d_Mod_length_49 : decode M_Mod_length.2.1 49 = .ok (.iload_n 1, 1) := by decide +kernel
theorem d_Mod_length_50 : decode M_Mod_length.2.1 50 = .ok (.imul, 1) := by decide +kernel
theorem d_Mod_length_51 : decode M_Mod_length.2.1 51 = .ok (.iload_n 2, 1) := by decide +kernel
theorem d_Mod_length_52 : decode M_Mod_length.2.1 52 = .ok (.iadd, 1) := by decide +kernel
theorem d_Mod_length_53 : decode M_Mod_length.2.1 53 = .ok (.iaload, 1) := by decide +kernel
theorem d_Mod_length_54 : decode M_Mod_length.2.1 54 = .ok (.ireturn, 1) := by decide +kernel
theorem d_Mod_table_0 : decode M_Mod_table.2.1 0 = .ok (.aload_n 0, 1) := by decide +kernel
theorem d_Mod_table_1 : decode M_Mod_table.2.1 1 = .ok (.iconst 0, 1) := by decide +kernel
theorem d_Mod_table_2 : decode M_Mod_table.2.1 2 = .ok (.putfield 75, 3) := by decide +kernel
theorem d_Mod_table_5 : decode M_Mod_table.2.1 5 = .ok (.aload_n 0, 1) := by decide +kernel
theorem d_Mod_table_6 : decode M_Mod_table.2.1 6 = .ok (.getfield 215, 3) := by decide +kernel
theorem d_Mod_table_9 : decode M_Mod_table.2.1 9 = .ok (.ifCond .eq 15, 3) := by decide +kernel
theorem d_Mod_table_12 : decode M_Mod_table.2.1 12 = .ok (.iload_n 1, 1) := by decide +kernel
theorem d_Mod_table_13 : decode M_Mod_table.2.1 13 = .ok (.ifCond .lt 11, 3) := by decide +kernel
theorem d_Mod_table_16 : decode M_Mod_table.2.1 16 = .ok (.iload_n 1, 1) := by decide +kernel
theorem d_Mod_table_17 : decode M_Mod_table.2.1 17 = .ok (.aload_n 0, 1) := by decide +kernel
theorem d_Mod_table_18 : decode M_Mod_table.2.1 18 = .ok (.getfield 206, 3) := by decide +kernel
theorem d_Mod_table_21 : decode M_Mod_table.2.1 21 = .ok (.if_icmp .lt 7, 3) := by decide +kernel
theorem d_Mod_table_24 : decode M_Mod_table.2.1 24 = .ok (.iconst (-1), 1) := by decide +kernel
theorem d_Mod_table_25 : decode M_Mod_table.2.1 25 = .ok (.goto 9, 3) := by decide +kernel
theorem d_Mod_table_28 : decode M_Mod_table.2.1 28 = .ok (.aload_n 0, 1) := by decide +kernel
theorem d_Mod_table_29 : decode M_Mod_table.2.1 29 = .ok (.getfield 72, 3) := by decide +kernel
theorem d_Mod_table_32 : decode M_Mod_table.2.1 32 = .ok (.iload_n 1, 1) := by decide +kernel
theorem d_Mod_table_33 : decode M_Mod_table.2.1 33 = .ok (.iaload, 1) := by decide +kernel
theorem d_Mod_table_34 : decode M_Mod_table.2.1 34 = .ok (.ireturn, 1) := by decide +kernel
theorem d_BitReader_init_0 : decode M_BitReader_init.2.1 0 = .ok (.aload_n 0, 1) := by decide +kernel
theorem d_BitReader_init_1 : decode M_BitReader_init.2.1 1 = .ok (.invokespecial 3, 3) := by decide +kernel
theorem d_BitReader_init_4 : decode M_BitReader_init.2.1 4 = .ok (.aload_n 0, 1) := by decide +kernel
theorem d_BitReader_init_5 : decode M_BitReader_init.2.1 5 = .ok (.iconst 0, 1) := by decide +kernel
theorem d_BitReader_init_6 : decode M_BitReader_init.2.1 6 = .ok (.putfield 9, 3) := by decide +kernel
theorem d_BitReader_init_9 : decode M_BitReader_init.2.1 9 = .ok (.aload_n 0, 1) := by decide +kernel
theorem d_BitReader_init_10 : decode M_BitReader_init.2.1 10 = .ok (.iconst 0, 1) := by decide +kernel
theorem d_BitReader_init_11 : decode M_BitReader_init.2.1 11 = .ok (.putfield 15, 3) := by decide +kernel
theorem d_BitReader_init_14 : decode M_BitReader_init.2.1 14 = .ok (.aload_n 0, 1) := by decide +kernel
theorem d_BitReader_init_15 : decode M_BitReader_init.2.1 15 = .ok (.aload_n 1, 1) := by decide +kernel
theorem d_BitReader_init_16 : decode M_BitReader_init.2.1 16 = .ok (.putfield 18, 3) := by decide +kernel
theorem d_BitReader_init_19 : decode M_BitReader_init.2.1 19 = .ok (.return_, 1) := by decide +kernel
theorem d_BitReader_isAtEnd_0 : decode M_BitReader_isAtEnd.2.1 0 = .ok (.aload_n 0, 1) := by decide +kernel
theorem d_BitReader_isAtEnd_1 : decode M_BitReader_isAtEnd.2.1 1 = .ok (.getfield 9, 3) := by decide +kernel
theorem d_BitReader_isAtEnd_4 : decode M_BitReader_isAtEnd.2.1 4 = .ok (.bipush 8, 2) := by decide +kernel
theorem d_BitReader_isAtEnd_6 : decode M_BitReader_isAtEnd.2.1 6 = .ok (.aload_n 0, 1) := by decide +kernel
theorem d_BitReader_isAtEnd_7 : decode M_BitReader_isAtEnd.2.1 7 = .ok (.getfield 18, 3) := by decide +kernel
theorem d_BitReader_isAtEnd_10 : decode M_BitReader_isAtEnd.2.1 10 = .ok (.getfield 22, 3) := by decide +kernel
theorem d_BitReader_isAtEnd_13 : decode M_BitReader_isAtEnd.2.1 13 = .ok (.imul, 1) := by decide +kernel
theorem d_BitReader_isAtEnd_14 : decode M_BitReader_isAtEnd.2.1 14 = .ok (.if_icmp .lt 7, 3) := by decide +kernel
theorem d_BitReader_isAtEnd_17 : decode M_BitReader_isAtEnd.2.1 17 = .ok (.iconst 1, 1) := by decide +kernel
theorem d_BitReader_isAtEnd_18 : decode M_BitReader_isAtEnd.2.1 18 = .ok (.goto 4, 3) := by decide +kernel
theorem d_BitReader_isAtEnd_21 : decode M_BitReader_isAtEnd.2.1 21 = .ok (.iconst 0, 1) := by decide +kernel
theorem d_BitReader_isAtEnd_22 : decode M_BitReader_isAtEnd.2.1 22 = .ok (.ireturn, 1) := by decide +kernel
theorem d_BitReader_goTo_0 : decode M_BitReader_goTo.2.1 0 = .ok (.aload_n 0, 1) := by decide +kernel
theorem d_BitReader_goTo_1 : decode M_BitReader_goTo.2.1 1 = .ok (.iload_n 1, 1) := by decide +kernel
theorem d_BitReader_goTo_2 : decode M_BitReader_goTo.2.1 2 = .ok (.putfield 9, 3) := by decide +kernel
theorem d_BitReader_goTo_5 : decode M_BitReader_goTo.2.1 5 = .ok (.return_, 1) := by decide +kernel
theorem d_BitReader_skipToByte_0 : decode M_BitReader_skipToByte.2.1 0 = .ok (.aload_n 0, 1) := by decide +kernel
theorem d_BitReader_skipToByte_1 : decode M_BitReader_skipToByte.2.1 1 = .ok (.aload_n 0, 1) := by decide +kernel
theorem d_BitReader_skipToByte_2 : decode M_BitReader_skipToByte.2.1 2 = .ok (.getfield 9, 3) := by decide +kernel
theorem d_BitReader_skipToByte_5 : decode M_BitReader_skipToByte.2.1 5 = .ok (.bipush 7, 2) := by decide +kernel
theorem d_BitReader_skipToByte_7 : decode M_BitReader_skipToByte.2.1 7 = .ok (.iadd, 1) := by decide +kernel
theorem d_BitReader_skipToByte_8 : decode M_BitReader_skipToByte.2.1 8 = .ok (.bipush 8, 2) := by decide +kernel
theorem d_BitReader_skipToByte_10 : decode M_BitReader_skipToByte.2.1 10 = .ok (.idiv, 1) := by decide +kernel
theorem d_BitReader_skipToByte_11 : decode M_BitReader_skipToByte.2.1 11 = .ok (.bipush 8, 2) := by decide +kernel
theorem d_BitReader_skipToByte_13 : decode M_BitReader_skipToByte.2.1 13 = .ok (.imul, 1) := by decide +kernel
theorem d_BitReader_skipToByte_14 : decode M_BitReader_skipToByte.2.1 14 = .ok (.putfield 9, 3) := by decide +kernel
theorem d_BitReader_skipToByte_17 : decode M_BitReader_skipToByte.2.1 17 = .ok (.return_, 1) := by decide +kernel
theorem d_BitReader_beginNumber_0 : decode M_BitReader_beginNumber.2.1 0 = .ok (.aload_n 0, 1) := by decide +kernel
theorem d_BitReader_beginNumber_1 : decode M_BitReader_beginNumber.2.1 1 = .ok (.aload_n 0, 1) := by decide +kernel
theorem d_BitReader_beginNumber_2 : decode M_BitReader_beginNumber.2.1 2 = .ok (.getfield 9, 3) := by decide +kernel
theorem d_BitReader_beginNumber_5 : decode M_BitReader_beginNumber.2.1 5 = .ok (.putfield 15, 3) := by decide +kernel
theorem d_BitReader_beginNumber_8 : decode M_BitReader_beginNumber.2.1 8 = .ok (.return_, 1) := by decide +kernel
theorem d_BitReader_takeBit_0 : decode M_BitReader_takeBit.2.1 0 = .ok (.aload_n 0, 1) := by decide +kernel
theorem d_BitReader_takeBit_1 : decode M_BitReader_takeBit.2.1 1 = .ok (.getfield 9, 3) := by decide +kernel
theorem d_BitReader_takeBit_4 : decode M_BitReader_takeBit.2.1 4 = .ok (.bipush 8, 2) := by decide +kernel
theorem d_BitReader_takeBit_6 : decode M_BitReader_takeBit.2.1 6 = .ok (.idiv, 1) := by decide +kernel
theorem d_BitReader_takeBit_7 : decode M_BitReader_takeBit.2.1 7 = .ok (.istore_n 1, 1) := by decide +kernel
theorem d_BitReader_takeBit_8 : decode M_BitReader_takeBit.2.1 8 = .ok (.iload_n 1, 1) := by decide +kernel
theorem d_BitReader_takeBit_9 : decode M_BitReader_takeBit.2.1 9 = .ok (.ifCond .lt 14, 3) := by decide +kernel
theorem d_BitReader_takeBit_12 : decode M_BitReader_takeBit.2.1 12 = .ok (.iload_n 1, 1) := by decide +kernel
theorem d_BitReader_takeBit_13 : decode M_BitReader_takeBit.2.1 13 = .ok (.aload_n 0, 1) := by decide +kernel
theorem d_BitReader_takeBit_14 : decode M_BitReader_takeBit.2.1 14 = .ok (.getfield 18, 3) := by decide +kernel
theorem d_BitReader_takeBit_17 : decode M_BitReader_takeBit.2.1 17 = .ok (.getfield 22, 3) := by decide +kernel
theorem d_BitReader_takeBit_20 : decode M_BitReader_takeBit.2.1 20 = .ok (.if_icmp .lt 6, 3) := by decide +kernel
theorem d_BitReader_takeBit_23 : decode M_BitReader_takeBit.2.1 23 = .ok (.bipush (-2), 2) := by decide +kernel
theorem d_BitReader_takeBit_25 : decode M_BitReader_takeBit.2.1 25 = .ok (.ireturn, 1) := by decide +kernel
theorem d_BitReader_takeBit_26 : decode M_BitReader_takeBit.2.1 26 = .ok (.aload_n 0, 1) := by decide +kernel
theorem d_BitReader_takeBit_27 : decode M_BitReader_takeBit.2.1 27 = .ok (.getfield 18, 3) := by decide +kernel
theorem d_BitReader_takeBit_30 : decode M_BitReader_takeBit.2.1 30 = .ok (.getfield 27, 3) := by decide +kernel
theorem d_BitReader_takeBit_33 : decode M_BitReader_takeBit.2.1 33 = .ok (.iload_n 1, 1) := by decide +kernel
theorem d_BitReader_takeBit_34 : decode M_BitReader_takeBit.2.1 34 = .ok (.iaload, 1) := by decide +kernel
theorem d_BitReader_takeBit_35 : decode M_BitReader_takeBit.2.1 35 = .ok (.bipush 7, 2) := by decide +kernel
theorem d_BitReader_takeBit_37 : decode M_BitReader_takeBit.2.1 37 = .ok (.aload_n 0, 1) := by decide +kernel
theorem d_BitReader_takeBit_38 : decode M_BitReader_takeBit.2.1 38 = .ok (.getfield 9, 3) := by decide +kernel
theorem d_BitReader_takeBit_41 : decode M_BitReader_takeBit.2.1 41 = .ok (.bipush 8, 2) := by decide +kernel
theorem d_BitReader_takeBit_43 : decode M_BitReader_takeBit.2.1 43 = .ok (.irem, 1) := by decide +kernel
theorem d_BitReader_takeBit_44 : decode M_BitReader_takeBit.2.1 44 = .ok (.isub, 1) := by decide +kernel
theorem d_BitReader_takeBit_45 : decode M_BitReader_takeBit.2.1 45 = .ok (.ishr, 1) := by decide +kernel
theorem d_BitReader_takeBit_46 : decode M_BitReader_takeBit.2.1 46 = .ok (.iconst 1, 1) := by decide +kernel
theorem d_BitReader_takeBit_47 : decode M_BitReader_takeBit.2.1 47 = .ok (.iand, 1) := by decide +kernel
theorem d_BitReader_takeBit_48 : decode M_BitReader_takeBit.2.1 48 = .ok (.istore_n 2, 1) := by decide +kernel
theorem d_BitReader_takeBit_49 : decode M_BitReader_takeBit.2.1 49 = .ok (.aload_n 0, 1) := by decide +kernel
theorem d_BitReader_takeBit_50 : decode M_BitReader_takeBit.2.1 50 = .ok (.dup, 1) := by decide +kernel
theorem d_BitReader_takeBit_51 : decode M_BitReader_takeBit.2.1 51 = .ok (.getfield 9, 3) := by decide +kernel
theorem d_BitReader_takeBit_54 : decode M_BitReader_takeBit.2.1 54 = .ok (.iconst 1, 1) := by decide +kernel
theorem d_BitReader_takeBit_55 : decode M_BitReader_takeBit.2.1 55 = .ok (.iadd, 1) := by decide +kernel
theorem d_BitReader_takeBit_56 : decode M_BitReader_takeBit.2.1 56 = .ok (.putfield 9, 3) := by decide +kernel
theorem d_BitReader_takeBit_59 : decode M_BitReader_takeBit.2.1 59 = .ok (.iload_n 2, 1) := by decide +kernel
theorem d_BitReader_takeBit_60 : decode M_BitReader_takeBit.2.1 60 = .ok (.ireturn, 1) := by decide +kernel
theorem d_BitReader_takeNumber_0 : decode M_BitReader_takeNumber.2.1 0 = .ok (.aload_n 0, 1) := by decide +kernel
theorem d_BitReader_takeNumber_1 : decode M_BitReader_takeNumber.2.1 1 = .ok (.invokevirtual 31, 3) := by decide +kernel
theorem d_BitReader_takeNumber_4 : decode M_BitReader_takeNumber.2.1 4 = .ok (.iconst 0, 1) := by decide +kernel
theorem d_BitReader_takeNumber_5 : decode M_BitReader_takeNumber.2.1 5 = .ok (.istore_n 2, 1) := by decide +kernel
theorem d_BitReader_takeNumber_6 : decode M_BitReader_takeNumber.2.1 6 = .ok (.iconst 0, 1) := by decide +kernel
theorem d_BitReader_takeNumber_7 : decode M_BitReader_takeNumber.2.1 7 = .ok (.istore_n 3, 1) := by decide +kernel
theorem d_BitReader_takeNumber_8 : decode M_BitReader_takeNumber.2.1 8 = .ok (.iload_n 3, 1) := by decide +kernel
theorem d_BitReader_takeNumber_9 : decode M_BitReader_takeNumber.2.1 9 = .ok (.iload_n 1, 1) := by decide +kernel
theorem d_BitReader_takeNumber_10 : decode M_BitReader_takeNumber.2.1 10 = .ok (.if_icmp .ge 30, 3) := by decide +kernel
theorem d_BitReader_takeNumber_13 : decode M_BitReader_takeNumber.2.1 13 = .ok (.aload_n 0, 1) := by decide +kernel
theorem d_BitReader_takeNumber_14 : decode M_BitReader_takeNumber.2.1 14 = .ok (.invokevirtual 34, 3) := by decide +kernel
theorem d_BitReader_takeNumber_17 : decode M_BitReader_takeNumber.2.1 17 = .ok (.istore 4, 2) := by decide +kernel
theorem d_BitReader_takeNumber_19 : decode M_BitReader_takeNumber.2.1 19 = .ok (.iload 4, 2) := by decide +kernel
theorem d_BitReader_takeNumber_21 : decode M_BitReader_takeNumber.2.1 21 = .ok (.ifCond .ge 6, 3) := by decide +kernel
theorem d_BitReader_takeNumber_24 : decode M_BitReader_takeNumber.2.1 24 = .ok (.iload 4, 2) := by decide +kernel
theorem d_BitReader_takeNumber_26 : decode M_BitReader_takeNumber.2.1 26 = .ok (.ireturn, 1) := by decide +kernel
theorem d_BitReader_takeNumber_27 : decode M_BitReader_takeNumber.2.1 27 = .ok (.iload_n 2, 1) := by decide +kernel
theorem d_BitReader_takeNumber_28 : decode M_BitReader_takeNumber.2.1 28 = .ok (.iconst 1, 1) := by decide +kernel
theorem d_BitReader_takeNumber_29 : decode M_BitReader_takeNumber.2.1 29 = .ok (.ishl, 1) := by decide +kernel
theorem d_BitReader_takeNumber_30 : decode M_BitReader_takeNumber.2.1 30 = .ok (.iload 4, 2) := by decide +kernel
theorem d_BitReader_takeNumber_32 : decode M_BitReader_takeNumber.2.1 32 = .ok (.ior, 1) := by decide +kernel
theorem d_BitReader_takeNumber_33 : decode M_BitReader_takeNumber.2.1 33 = .ok (.istore_n 2, 1) := by decide +kernel
theorem d_BitReader_takeNumber_34 : decode M_BitReader_takeNumber.2.1 34 = .ok (.iinc 3 1, 3) := by decide +kernel
theorem d_BitReader_takeNumber_37 : decode M_BitReader_takeNumber.2.1 37 = .ok (.goto (-29), 3) := by decide +kernel
theorem d_BitReader_takeNumber_40 : decode M_BitReader_takeNumber.2.1 40 = .ok (.iload_n 2, 1) := by decide +kernel
theorem d_BitReader_takeNumber_41 : decode M_BitReader_takeNumber.2.1 41 = .ok (.ireturn, 1) := by decide +kernel
theorem d_BitReader_findMark_0 : decode M_BitReader_findMark.2.1 0 = .ok (.aload_n 0, 1) := by decide +kernel
theorem d_BitReader_findMark_1 : decode M_BitReader_findMark.2.1 1 = .ok (.iload_n 1, 1) := by decide +kernel
theorem d_BitReader_findMark_2 : decode M_BitReader_findMark.2.1 2 = .ok (.invokevirtual 38, 3) := by decide +kernel
theorem d_BitReader_findMark_5 : decode M_BitReader_findMark.2.1 5 = .ok (.iconst 0, 1) := by decide +kernel
theorem d_BitReader_findMark_6 : decode M_BitReader_findMark.2.1 6 = .ok (.istore_n 2, 1) := by decide +kernel
theorem d_BitReader_findMark_7 : decode M_BitReader_findMark.2.1 7 = .ok (.iconst 1, 1) := by decide +kernel
theorem d_BitReader_findMark_8 : decode M_BitReader_findMark.2.1 8 = .ok (.istore_n 3, 1) := by decide +kernel
theorem d_BitReader_findMark_9 : decode M_BitReader_findMark.2.1 9 = .ok (.iload_n 3, 1) := by decide +kernel
theorem d_BitReader_findMark_10 : decode M_BitReader_findMark.2.1 10 = .ok (.sipush 3200, 3) := by decide +kernel
theorem d_BitReader_findMark_13 : decode M_BitReader_findMark.2.1 13 = .ok (.if_icmp .gt 46, 3) := by decide +kernel
theorem d_BitReader_findMark_16 : decode M_BitReader_findMark.2.1 16 = .ok (.aload_n 0, 1) := by decide +kernel
theorem d_BitReader_findMark_17 : decode M_BitReader_findMark.2.1 17 = .ok (.invokevirtual 34, 3) := by decide +kernel
theorem d_BitReader_findMark_20 : decode M_BitReader_findMark.2.1 20 = .ok (.istore 4, 2) := by decide +kernel
theorem d_BitReader_findMark_22 : decode M_BitReader_findMark.2.1 22 = .ok (.iload 4, 2) := by decide +kernel
theorem d_BitReader_findMark_24 : decode M_BitReader_findMark.2.1 24 = .ok (.ifCond .ge 5, 3) := by decide +kernel
theorem d_BitReader_findMark_27 : decode M_BitReader_findMark.2.1 27 = .ok (.iconst 0, 1) := by decide +kernel
theorem d_BitReader_findMark_28 : decode M_BitReader_findMark.2.1 28 = .ok (.ireturn, 1) := by decide +kernel
theorem d_BitReader_findMark_29 : decode M_BitReader_findMark.2.1 29 = .ok (.iload_n 2, 1) := by decide +kernel
theorem d_BitReader_findMark_30 : decode M_BitReader_findMark.2.1 30 = .ok (.iconst 1, 1) := by decide +kernel
theorem d_BitReader_findMark_31 : decode M_BitReader_findMark.2.1 31 = .ok (.ishl, 1) := by decide +kernel
theorem d_BitReader_findMark_32 : decode M_BitReader_findMark.2.1 32 = .ok (.iload 4, 2) := by decide +kernel
theorem d_BitReader_findMark_34 : decode M_BitReader_findMark.2.1 34 = .ok (.ior, 1) := by decide +kernel
theorem d_BitReader_findMark_35 : decode M_BitReader_findMark.2.1 35 = .ok (.ldc 42, 2) := by decide +kernel
theorem d_BitReader_findMark_37 : decode M_BitReader_findMark.2.1 37 = .ok (.iand, 1) := by decide +kernel
theorem d_BitReader_findMark_38 : decode M_BitReader_findMark.2.1 38 = .ok (.istore_n 2, 1) := by decide +kernel
theorem d_BitReader_findMark_39 : decode M_BitReader_findMark.2.1 39 = .ok (.iload_n 2, 1) := by decide +kernel
theorem d_BitReader_findMark_40 : decode M_BitReader_findMark.2.1 40 = .ok (.ldc 43, 2) := by decide +kernel
theorem d_BitReader_findMark_42 : decode M_BitReader_findMark.2.1 42 = .ok (.if_icmp .ne 11, 3) := by decide +kernel
theorem d_BitReader_findMark_45 : decode M_BitReader_findMark.2.1 45 = .ok (.iload_n 3, 1) := by decide +kernel
theorem d_BitReader_findMark_46 : decode M_BitReader_findMark.2.1 46 = .ok (.bipush 24, 2) := by decide +kernel
theorem d_BitReader_findMark_48 : decode M_BitReader_findMark.2.1 48 = .ok (.if_icmp .lt 5, 3) := by decide +kernel
theorem d_BitReader_findMark_51 : decode M_BitReader_findMark.2.1 51 = .ok (.iconst 1, 1) := by decide +kernel
theorem d_BitReader_findMark_52 : decode M_BitReader_findMark.2.1 52 = .ok (.ireturn, 1) := by decide +kernel
theorem d_BitReader_findMark_53 : decode M_BitReader_findMark.2.1 53 = .ok (.iinc 3 1, 3) := by decide +kernel
theorem d_BitReader_findMark_56 : decode M_BitReader_findMark.2.1 56 = .ok (.goto (-47), 3) := by decide +kernel
theorem d_BitReader_findMark_59 : decode M_BitReader_findMark.2.1 59 = .ok (.iconst 0, 1) := by decide +kernel
theorem d_BitReader_findMark_60 : decode M_BitReader_findMark.2.1 60 = .ok (.ireturn, 1) := by decide +kernel
theorem d_BitWriter_init_0 : decode M_BitWriter_init.2.1 0 = .ok (.aload_n 0, 1) := by decide +kernel
theorem d_BitWriter_init_1 : decode M_BitWriter_init.2.1 1 = .ok (.invokespecial 1, 3) := by decide +kernel
theorem d_BitWriter_init_4 : decode M_BitWriter_init.2.1 4 = .ok (.aload_n 0, 1) := by decide +kernel
theorem d_BitWriter_init_5 : decode M_BitWriter_init.2.1 5 = .ok (.iconst 0, 1) := by decide +kernel
theorem d_BitWriter_init_6 : decode M_BitWriter_init.2.1 6 = .ok (.putfield 7, 3) := by decide +kernel
theorem d_BitWriter_init_9 : decode M_BitWriter_init.2.1 9 = .ok (.aload_n 0, 1) := by decide +kernel
theorem d_BitWriter_init_10 : decode M_BitWriter_init.2.1 10 = .ok (.iconst 0, 1) := by decide +kernel
theorem d_BitWriter_init_11 : decode M_BitWriter_init.2.1 11 = .ok (.putfield 13, 3) := by decide +kernel
theorem d_BitWriter_init_14 : decode M_BitWriter_init.2.1 14 = .ok (.aload_n 0, 1) := by decide +kernel
theorem d_BitWriter_init_15 : decode M_BitWriter_init.2.1 15 = .ok (.aload_n 1, 1) := by decide +kernel
theorem d_BitWriter_init_16 : decode M_BitWriter_init.2.1 16 = .ok (.putfield 16, 3) := by decide +kernel
theorem d_BitWriter_init_19 : decode M_BitWriter_init.2.1 19 = .ok (.return_, 1) := by decide +kernel
theorem d_BitWriter_put_0 : decode M_BitWriter_put.2.1 0 = .ok (.iload_n 2, 1) := by decide +kernel
theorem d_BitWriter_put_1 : decode M_BitWriter_put.2.1 1 = .ok (.iconst 1, 1) := by decide +kernel
theorem d_BitWriter_put_2 : decode M_BitWriter_put.2.1 2 = .ok (.isub, 1) := by decide +kernel
theorem d_BitWriter_put_3 : decode M_BitWriter_put.2.1 3 = .ok (.istore_n 3, 1) := by decide +kernel
theorem d_BitWriter_put_4 : decode M_BitWriter_put.2.1 4 = .ok (.iload_n 3, 1) := by decide +kernel
theorem d_BitWriter_put_5 : decode M_BitWriter_put.2.1 5 = .ok (.ifCond .lt 18, 3) := by decide +kernel
theorem d_BitWriter_put_8 : decode M_BitWriter_put.2.1 8 = .ok (.aload_n 0, 1) := by decide +kernel
theorem d_BitWriter_put_9 : decode M_BitWriter_put.2.1 9 = .ok (.iload_n 1, 1) := by decide +kernel
theorem d_BitWriter_put_10 : decode M_BitWriter_put.2.1 10 = .ok (.iload_n 3, 1) := by decide +kernel
theorem d_BitWriter_put_11 : decode M_BitWriter_put.2.1 11 = .ok (.ishr, 1) := by decide +kernel
theorem d_BitWriter_put_12 : decode M_BitWriter_put.2.1 12 = .ok (.iconst 1, 1) := by decide +kernel
theorem d_BitWriter_put_13 : decode M_BitWriter_put.2.1 13 = .ok (.iand, 1) := by decide +kernel
theorem d_BitWriter_put_14 : decode M_BitWriter_put.2.1 14 = .ok (.invokevirtual 20, 3) := by decide +kernel
theorem d_BitWriter_put_17 : decode M_BitWriter_put.2.1 17 = .ok (.iinc 3 (-1), 3) := by decide +kernel
theorem d_BitWriter_put_20 : decode M_BitWriter_put.2.1 20 = .ok (.goto (-16), 3) := by decide +kernel
theorem d_BitWriter_put_23 : decode M_BitWriter_put.2.1 23 = .ok (.return_, 1) := by decide +kernel
theorem d_BitWriter_fillByte_0 : decode M_BitWriter_fillByte.2.1 0 = .ok (.aload_n 0, 1) := by decide +kernel
theorem d_BitWriter_fillByte_1 : decode M_BitWriter_fillByte.2.1 1 = .ok (.getfield 13, 3) := by decide +kernel
theorem d_BitWriter_fillByte_4 : decode M_BitWriter_fillByte.2.1 4 = .ok (.ifCond .le 15, 3) := by decide +kernel
theorem d_BitWriter_fillByte_7 : decode M_BitWriter_fillByte.2.1 7 = .ok (.aload_n 0, 1) := by decide +kernel
theorem d_BitWriter_fillByte_8 : decode M_BitWriter_fillByte.2.1 8 = .ok (.iconst 0, 1) := by decide +kernel
theorem d_BitWriter_fillByte_9 : decode M_BitWriter_fillByte.2.1 9 = .ok (.bipush 8, 2) := by decide +kernel
theorem d_BitWriter_fillByte_11 : decode M_BitWriter_fillByte.2.1 11 = .ok (.aload_n 0, 1) := by decide +kernel
theorem d_BitWriter_fillByte_12 : decode M_BitWriter_fillByte.2.1 12 = .ok (.getfield 13, 3) := by decide +kernel
theorem d_BitWriter_fillByte_15 : decode M_BitWriter_fillByte.2.1 15 = .ok (.isub, 1) := by decide +kernel
theorem d_BitWriter_fillByte_16 : decode M_BitWriter_fillByte.2.1 16 = .ok (.invokevirtual 24, 3) := by decide +kernel
theorem d_BitWriter_fillByte_19 : decode M_BitWriter_fillByte.2.1 19 = .ok (.return_, 1) := by decide +kernel
theorem d_BitWriter_putBit_0 : decode M_BitWriter_putBit.2.1 0 = .ok (.aload_n 0, 1) := by decide +kernel
theorem d_BitWriter_putBit_1 : decode M_BitWriter_putBit.2.1 1 = .ok (.aload_n 0, 1) := by decide +kernel
theorem d_BitWriter_putBit_2 : decode M_BitWriter_putBit.2.1 2 = .ok (.getfield 7, 3) := by decide +kernel
theorem d_BitWriter_putBit_5 : decode M_BitWriter_putBit.2.1 5 = .ok (.iconst 1, 1) := by decide +kernel
theorem d_BitWriter_putBit_6 : decode M_BitWriter_putBit.2.1 6 = .ok (.ishl, 1) := by decide +kernel
theorem d_BitWriter_putBit_7 : decode M_BitWriter_putBit.2.1 7 = .ok (.iload_n 1, 1) := by decide +kernel
theorem d_BitWriter_putBit_8 : decode M_BitWriter_putBit.2.1 8 = .ok (.ior, 1) := by decide +kernel
theorem d_BitWriter_putBit_9 : decode M_BitWriter_putBit.2.1 9 = .ok (.putfield 7, 3) := by decide +kernel
theorem d_BitWriter_putBit_12 : decode M_BitWriter_putBit.2.1 12 = .ok (.aload_n 0, 1) := by decide +kernel
theorem d_BitWriter_putBit_13 : decode M_BitWriter_putBit.2.1 13 = .ok (.dup, 1) := by decide +kernel
theorem d_BitWriter_putBit_14 : decode M_BitWriter_putBit.2.1 14 = .ok (.getfield 13, 3) := by decide +kernel
theorem d_BitWriter_putBit_17 : decode M_BitWriter_putBit.2.1 17 = .ok (.iconst 1, 1) := by decide +kernel
theorem d_BitWriter_putBit_18 : decode M_BitWriter_putBit.2.1 18 = .ok (.iadd, 1) := by decide +kernel
theorem d_BitWriter_putBit_19 : decode M_BitWriter_putBit.2.1 19 = .ok (.putfield 13, 3) := by decide +kernel
theorem d_BitWriter_putBit_22 : decode M_BitWriter_putBit.2.1 22 = .ok (.aload_n 0, 1) := by decide +kernel
theorem d_BitWriter_putBit_23 : decode M_BitWriter_putBit.2.1 23 = .ok (.getfield 13, 3) := by decide +kernel
theorem d_BitWriter_putBit_26 : decode M_BitWriter_putBit.2.1 26 = .ok (.bipush 8, 2) := by decide +kernel
theorem d_BitWriter_putBit_28 : decode M_BitWriter_putBit.2.1 28 = .ok (.if_icmp .ne 24, 3) := by decide +kernel
theorem d_BitWriter_putBit_31 : decode M_BitWriter_putBit.2.1 31 = .ok (.aload_n 0, 1) := by decide +kernel
theorem d_BitWriter_putBit_32 : decode M_BitWriter_putBit.2.1 32 = .ok (.getfield 16, 3) := by decide +kernel
theorem d_BitWriter_putBit_35 : decode M_BitWriter_putBit.2.1 35 = .ok (.aload_n 0, 1) := by decide +kernel
theorem d_BitWriter_putBit_36 : decode M_BitWriter_putBit.2.1 36 = .ok (.getfield 7, 3) := by decide +kernel
theorem d_BitWriter_putBit_39 : decode M_BitWriter_putBit.2.1 39 = .ok (.invokevirtual 28, 3) := by decide +kernel
theorem d_BitWriter_putBit_42 : decode M_BitWriter_putBit.2.1 42 = .ok (.aload_n 0, 1) := by decide +kernel
theorem d_BitWriter_putBit_43 : decode M_BitWriter_putBit.2.1 43 = .ok (.iconst 0, 1) := by decide +kernel
theorem d_BitWriter_putBit_44 : decode M_BitWriter_putBit.2.1 44 = .ok (.putfield 7, 3) := by decide +kernel
theorem d_BitWriter_putBit_47 : decode M_BitWriter_putBit.2.1 47 = .ok (.aload_n 0, 1) := by decide +kernel
theorem d_BitWriter_putBit_48 : decode M_BitWriter_putBit.2.1 48 = .ok (.iconst 0, 1) := by decide +kernel
theorem d_BitWriter_putBit_49 : decode M_BitWriter_putBit.2.1 49 = .ok (.putfield 13, 3) := by decide +kernel
theorem d_BitWriter_putBit_52 : decode M_BitWriter_putBit.2.1 52 = .ok (.return_, 1) := by decide +kernel
theorem d_Block_init_0 : decode M_Block_init.2.1 0 = .ok (.aload_n 0, 1) := by decide +kernel
theorem d_Block_init_1 : decode M_Block_init.2.1 1 = .ok (.invokespecial 3, 3) := by decide +kernel
theorem d_Block_init_4 : decode M_Block_init.2.1 4 = .ok (.aload_n 0, 1) := by decide +kernel
theorem d_Block_init_5 : decode M_Block_init.2.1 5 = .ok (.iconst 0, 1) := by decide +kernel
theorem d_Block_init_6 : decode M_Block_init.2.1 6 = .ok (.putfield 9, 3) := by decide +kernel
theorem d_Block_init_9 : decode M_Block_init.2.1 9 = .ok (.aload_n 0, 1) := by decide +kernel
theorem d_Block_init_10 : decode M_Block_init.2.1 10 = .ok (.iconst 0, 1) := by decide +kernel
theorem d_Block_init_11 : decode M_Block_init.2.1 11 = .ok (.putfield 15, 3) := by decide +kernel
theorem d_Block_init_14 : decode M_Block_init.2.1 14 = .ok (.aload_n 0, 1) := by decide +kernel
theorem d_Block_init_15 : decode M_Block_init.2.1 15 = .ok (.iconst 0, 1) := by decide +kernel
theorem d_Block_init_16 : decode M_Block_init.2.1 16 = .ok (.putfield 18, 3) := by decide +kernel
theorem d_Block_init_19 : decode M_Block_init.2.1 19 = .ok (.aload_n 0, 1) := by decide +kernel
theorem d_Block_init_20 : decode M_Block_init.2.1 20 = .ok (.bipush 64, 2) := by decide +kernel
theorem d_Block_init_22 : decode M_Block_init.2.1 22 = .ok (.newarray .int, 2) := by decide +kernel
theorem d_Block_init_24 : decode M_Block_init.2.1 24 = .ok (.putfield 21, 3) := by decide +kernel
theorem d_Block_init_27 : decode M_Block_init.2.1 27 = .ok (.aload_n 0, 1) := by decide +kernel
theorem d_Block_init_28 : decode M_Block_init.2.1 28 = .ok (.bipush 64, 2) := by decide +kernel
theorem d_Block_init_30 : decode M_Block_init.2.1 30 = .ok (.newarray .int, 2) := by decide +kernel
theorem d_Block_init_32 : decode M_Block_init.2.1 32 = .ok (.putfield 25, 3) := by decide +kernel
theorem d_Block_init_35 : decode M_Block_init.2.1 35 = .ok (.aload_n 0, 1) := by decide +kernel
theorem d_Block_init_36 : decode M_Block_init.2.1 36 = .ok (.iconst 0, 1) := by decide +kernel
theorem d_Block_init_37 : decode M_Block_init.2.1 37 = .ok (.putfield 28, 3) := by decide +kernel
theorem d_Block_init_40 : decode M_Block_init.2.1 40 = .ok (.aload_n 0, 1) := by decide +kernel
theorem d_Block_init_41 : decode M_Block_init.2.1 41 = .ok (.sipush 256, 3) := by decide +kernel
theorem d_Block_init_44 : decode M_Block_init.2.1 44 = .ok (.newarray .int, 2) := by decide +kernel
theorem d_Block_init_46 : decode M_Block_init.2.1 46 = .ok (.putfield 31, 3) := by decide +kernel
theorem d_Block_init_49 : decode M_Block_init.2.1 49 = .ok (.aload_n 0, 1) := by decide +kernel
theorem d_Block_init_50 : decode M_Block_init.2.1 50 = .ok (.iconst 0, 1) := by decide +kernel
theorem d_Block_init_51 : decode M_Block_init.2.1 51 = .ok (.putfield 34, 3) := by decide +kernel
theorem d_Block_init_54 : decode M_Block_init.2.1 54 = .ok (.aload_n 0, 1) := by decide +kernel
theorem d_Block_init_55 : decode M_Block_init.2.1 55 = .ok (.bipush 65, 2) := by decide +kernel
theorem d_Block_init_57 : decode M_Block_init.2.1 57 = .ok (.newarray .int, 2) := by decide +kernel
theorem d_Block_init_59 : decode M_Block_init.2.1 59 = .ok (.putfield 37, 3) := by decide +kernel
theorem d_Block_init_62 : decode M_Block_init.2.1 62 = .ok (.aload_n 0, 1) := by decide +kernel
theorem d_Block_init_63 : decode M_Block_init.2.1 63 = .ok (.iconst 0, 1) := by decide +kernel
theorem d_Block_init_64 : decode M_Block_init.2.1 64 = .ok (.putfield 40, 3) := by decide +kernel
theorem d_Block_init_67 : decode M_Block_init.2.1 67 = .ok (.aload_n 0, 1) := by decide +kernel
theorem d_Block_init_68 : decode M_Block_init.2.1 68 = .ok (.iconst 4, 1) := by decide +kernel
theorem d_Block_init_69 : decode M_Block_init.2.1 69 = .ok (.sipush 258, 3) := by decide +kernel
theorem d_Block_init_72 : decode M_Block_init.2.1 72 = .ok (.multianewarray 43 2, 4) := by decide +kernel
theorem d_Block_init_76 : decode M_Block_init.2.1 76 = .ok (.putfield 45, 3) := by decide +kernel
theorem d_Block_init_79 : decode M_Block_init.2.1 79 = .ok (.aload_n 0, 1) := by decide +kernel
theorem d_Block_init_80 : decode M_Block_init.2.1 80 = .ok (.iconst 0, 1) := by decide +kernel
theorem d_Block_init_81 : decode M_Block_init.2.1 81 = .ok (.putfield 48, 3) := by decide +kernel
theorem d_Block_init_84 : decode M_Block_init.2.1 84 = .ok (.aload_n 0, 1) := by decide +kernel
theorem d_Block_init_85 : decode M_Block_init.2.1 85 = .ok (.bipush 63, 2) := by decide +kernel
theorem d_Block_init_87 : decode M_Block_init.2.1 87 = .ok (.newarray .int, 2) := by decide +kernel
theorem d_Block_init_89 : decode M_Block_init.2.1 89 = .ok (.putfield 51, 3) := by decide +kernel
theorem d_Block_init_92 : decode M_Block_init.2.1 92 = .ok (.return_, 1) := by decide +kernel
theorem d_Block_symbolKinds_0 : decode M_Block_symbolKinds.2.1 0 = .ok (.aload_n 0, 1) := by decide +kernel
theorem d_Block_symbolKinds_1 : decode M_Block_symbolKinds.2.1 1 = .ok (.getfield 28, 3) := by decide +kernel
theorem d_Block_symbolKinds_4 : decode M_Block_symbolKinds.2.1 4 = .ok (.iconst 2, 1) := by decide +kernel
theorem d_Block_symbolKinds_5 : decode M_Block_symbolKinds.2.1 5 = .ok (.iadd, 1) := by decide +kernel
theorem d_Block_symbolKinds_6 : decode M_Block_symbolKinds.2.1 6 = .ok (.ireturn, 1) := by decide +kernel
theorem d_Block_endSymbol_0 : decode M_Block_endSymbol.2.1 0 = .ok (.aload_n 0, 1) := by decide +kernel
theorem d_Block_endSymbol_1 : decode M_Block_endSymbol.2.1 1 = .ok (.getfield 28, 3) := by decide +kernel
theorem d_Block_endSymbol_4 : decode M_Block_endSymbol.2.1 4 = .ok (.iconst 1, 1) := by decide +kernel
theorem d_Block_endSymbol_5 : decode M_Block_endSymbol.2.1 5 = .ok (.iadd, 1) := by decide +kernel
theorem d_Block_endSymbol_6 : decode M_Block_endSymbol.2.1 6 = .ok (.ireturn, 1) := by decide +kernel
theorem d_Block_addKind_0 : decode M_Block_addKind.2.1 0 = .ok (.aload_n 0, 1) := by decide +kernel
theorem d_Block_addKind_1 : decode M_Block_addKind.2.1 1 = .ok (.getfield 28, 3) := by decide +kernel
theorem d_Block_addKind_4 : decode M_Block_addKind.2.1 4 = .ok (.sipush 256, 3) := by decide +kernel
theorem d_Block_addKind_7 : decode M_Block_addKind.2.1 7 = .ok (.if_icmp .ge 23, 3) := by decide +kernel
theorem d_Block_addKind_10 : decode M_Block_addKind.2.1 10 = .ok (.aload_n 0, 1) := by decide +kernel
theorem d_Block_addKind_11 : decode M_Block_addKind.2.1 11 = .ok (.getfield 31, 3) := by decide +kernel
theorem d_Block_addKind_14 : decode M_Block_addKind.2.1 14 = .ok (.aload_n 0, 1) := by decide +kernel
theorem d_Block_addKind_15 : decode M_Block_addKind.2.1 15 = .ok (.getfield 28, 3) := by decide +kernel
theorem d_Block_addKind_18 : decode M_Block_addKind.2.1 18 = .ok (.iload_n 1, 1) := by decide +kernel
theorem d_Block_addKind_19 : decode M_Block_addKind.2.1 19 = .ok (.iastore, 1) := by decide +kernel
theorem d_Block_addKind_20 : decode M_Block_addKind.2.1 20 = .ok (.aload_n 0, 1) := by decide +kernel
theorem d_Block_addKind_21 : decode M_Block_addKind.2.1 21 = .ok (.dup, 1) := by decide +kernel
theorem d_Block_addKind_22 : decode M_Block_addKind.2.1 22 = .ok (.getfield 28, 3) := by decide +kernel
theorem d_Block_addKind_25 : decode M_Block_addKind.2.1 25 = .ok (.iconst 1, 1) := by decide +kernel
theorem d_Block_addKind_26 : decode M_Block_addKind.2.1 26 = .ok (.iadd, 1) := by decide +kernel
theorem d_Block_addKind_27 : decode M_Block_addKind.2.1 27 = .ok (.putfield 28, 3) := by decide +kernel
theorem d_Block_addKind_30 : decode M_Block_addKind.2.1 30 = .ok (.return_, 1) := by decide +kernel
theorem d_Block_addShortened_0 : decode M_Block_addShortened.2.1 0 = .ok (.aload_n 0, 1) := by decide +kernel
theorem d_Block_addShortened_1 : decode M_Block_addShortened.2.1 1 = .ok (.getfield 18, 3) := by decide +kernel
theorem d_Block_addShortened_4 : decode M_Block_addShortened.2.1 4 = .ok (.bipush 64, 2) := by decide +kernel
theorem d_Block_addShortened_6 : decode M_Block_addShortened.2.1 6 = .ok (.if_icmp .ge 23, 3) := by decide +kernel
theorem d_Block_addShortened_9 : decode M_Block_addShortened.2.1 9 = .ok (.aload_n 0, 1) := by decide +kernel
theorem d_Block_addShortened_10 : decode M_Block_addShortened.2.1 10 = .ok (.getfield 21, 3) := by decide +kernel
theorem d_Block_addShortened_13 : decode M_Block_addShortened.2.1 13 = .ok (.aload_n 0, 1) := by decide +kernel
theorem d_Block_addShortened_14 : decode M_Block_addShortened.2.1 14 = .ok (.getfield 18, 3) := by decide +kernel
theorem d_Block_addShortened_17 : decode M_Block_addShortened.2.1 17 = .ok (.iload_n 1, 1) := by decide +kernel
theorem d_Block_addShortened_18 : decode M_Block_addShortened.2.1 18 = .ok (.iastore, 1) := by decide +kernel
theorem d_Block_addShortened_19 : decode M_Block_addShortened.2.1 19 = .ok (.aload_n 0, 1) := by decide +kernel
theorem d_Block_addShortened_20 : decode M_Block_addShortened.2.1 20 = .ok (.dup, 1) := by decide +kernel
theorem d_Block_addShortened_21 : decode M_Block_addShortened.2.1 21 = .ok (.getfield 18, 3) := by decide +kernel
theorem d_Block_addShortened_24 : decode M_Block_addShortened.2.1 24 = .ok (.iconst 1, 1) := by decide +kernel
theorem d_Block_addShortened_25 : decode M_Block_addShortened.2.1 25 = .ok (.iadd, 1) := by decide +kernel
theorem d_Block_addShortened_26 : decode M_Block_addShortened.2.1 26 = .ok (.putfield 18, 3) := by decide +kernel
theorem d_Block_addShortened_29 : decode M_Block_addShortened.2.1 29 = .ok (.return_, 1) := by decide +kernel
theorem d_Block_addToColumn_0 : decode M_Block_addToColumn.2.1 0 = .ok (.aload_n 0, 1) := by decide +kernel
theorem d_Block_addToColumn_1 : decode M_Block_addToColumn.2.1 1 = .ok (.getfield 18, 3) := by decide +kernel
theorem d_Block_addToColumn_4 : decode M_Block_addToColumn.2.1 4 = .ok (.bipush 64, 2) := by decide +kernel
theorem d_Block_addToColumn_6 : decode M_Block_addToColumn.2.1 6 = .ok (.if_icmp .ge 23, 3) := by decide +kernel
theorem d_Block_addToColumn_9 : decode M_Block_addToColumn.2.1 9 = .ok (.aload_n 0, 1) := by decide +kernel
theorem d_Block_addToColumn_10 : decode M_Block_addToColumn.2.1 10 = .ok (.getfield 25, 3) := by decide +kernel
theorem d_Block_addToColumn_13 : decode M_Block_addToColumn.2.1 13 = .ok (.aload_n 0, 1) := by decide +kernel
theorem d_Block_addToColumn_14 : decode M_Block_addToColumn.2.1 14 = .ok (.getfield 18, 3) := by decide +kernel
theorem d_Block_addToColumn_17 : decode M_Block_addToColumn.2.1 17 = .ok (.iload_n 1, 1) := by decide +kernel
theorem d_Block_addToColumn_18 : decode M_Block_addToColumn.2.1 18 = .ok (.iastore, 1) := by decide +kernel
theorem d_Block_addToColumn_19 : decode M_Block_addToColumn.2.1 19 = .ok (.aload_n 0, 1) := by decide +kernel
theorem d_Block_addToColumn_20 : decode M_Block_addToColumn.2.1 20 = .ok (.dup, 1) := by decide +kernel
theorem d_Block_addToColumn_21 : decode M_Block_addToColumn.2.1 21 = .ok (.getfield 18, 3) := by decide +kernel
theorem d_Block_addToColumn_24 : decode M_Block_addToColumn.2.1 24 = .ok (.iconst 1, 1) := by decide +kernel
theorem d_Block_addToColumn_25 : decode M_Block_addToColumn.2.1 25 = .ok (.iadd, 1) := by decide +kernel
theorem d_Block_addToColumn_26 : decode M_Block_addToColumn.2.1 26 = .ok (.putfield 18, 3) := by decide +kernel
theorem d_Block_addToColumn_29 : decode M_Block_addToColumn.2.1 29 = .ok (.return_, 1) := by decide +kernel
theorem d_Block_addSymbol_0 : decode M_Block_addSymbol.2.1 0 = .ok (.aload_n 0, 1) := by decide +kernel
theorem d_Block_addSymbol_1 : decode M_Block_addSymbol.2.1 1 = .ok (.getfield 34, 3) := by decide +kernel
theorem d_Block_addSymbol_4 : decode M_Block_addSymbol.2.1 4 = .ok (.bipush 65, 2) := by decide +kernel
theorem d_Block_addSymbol_6 : decode M_Block_addSymbol.2.1 6 = .ok (.if_icmp .ge 23, 3) := by decide +kernel
theorem d_Block_addSymbol_9 : decode M_Block_addSymbol.2.1 9 = .ok (.aload_n 0, 1) := by decide +kernel
theorem d_Block_addSymbol_10 : decode M_Block_addSymbol.2.1 10 = .ok (.getfield 37, 3) := by decide +kernel
theorem d_Block_addSymbol_13 : decode M_Block_addSymbol.2.1 13 = .ok (.aload_n 0, 1) := by decide +kernel
theorem d_Block_addSymbol_14 : decode M_Block_addSymbol.2.1 14 = .ok (.getfield 34, 3) := by decide +kernel
theorem d_Block_addSymbol_17 : decode M_Block_addSymbol.2.1 17 = .ok (.iload_n 1, 1) := by decide +kernel
theorem d_Block_addSymbol_18 : decode M_Block_addSymbol.2.1 18 = .ok (.iastore, 1) := by decide +kernel
theorem d_Block_addSymbol_19 : decode M_Block_addSymbol.2.1 19 = .ok (.aload_n 0, 1) := by decide +kernel
theorem d_Block_addSymbol_20 : decode M_Block_addSymbol.2.1 20 = .ok (.dup, 1) := by decide +kernel
theorem d_Block_addSymbol_21 : decode M_Block_addSymbol.2.1 21 = .ok (.getfield 34, 3) := by decide +kernel
theorem d_Block_addSymbol_24 : decode M_Block_addSymbol.2.1 24 = .ok (.iconst 1, 1) := by decide +kernel
theorem d_Block_addSymbol_25 : decode M_Block_addSymbol.2.1 25 = .ok (.iadd, 1) := by decide +kernel
theorem d_Block_addSymbol_26 : decode M_Block_addSymbol.2.1 26 = .ok (.putfield 34, 3) := by decide +kernel
theorem d_Block_addSymbol_29 : decode M_Block_addSymbol.2.1 29 = .ok (.return_, 1) := by decide +kernel
theorem d_Block_pickOfSymbol_0 : decode M_Block_pickOfSymbol.2.1 0 = .ok (.iload_n 1, 1) := by decide +kernel
theorem d_Block_pickOfSymbol_1 : decode M_Block_pickOfSymbol.2.1 1 = .ok (.bipush 8, 2) := by decide +kernel
theorem d_Block_pickOfSymbol_3 : decode M_Block_pickOfSymbol.2.1 3 = .ok (.idiv, 1) := by decide +kernel
theorem d_Block_pickOfSymbol_4 : decode M_Block_pickOfSymbol.2.1 4 = .ok (.istore_n 2, 1) := by decide +kernel
theorem d_Block_pickOfSymbol_5 : decode M_Block_pickOfSymbol.2.1 5 = .ok (.iload_n 2, 1) := by decide +kernel
theorem d_Block_pickOfSymbol_6 : decode M_Block_pickOfSymbol.2.1 6 = .ok (.ifCond .lt 20, 3) := by decide +kernel
theorem d_Block_pickOfSymbol_9 : decode M_Block_pickOfSymbol.2.1 9 = .ok (.iload_n 2, 1) := by decide +kernel
theorem d_Block_pickOfSymbol_10 : decode M_Block_pickOfSymbol.2.1 10 = .ok (.aload_n 0, 1) := by decide +kernel
theorem d_Block_pickOfSymbol_11 : decode M_Block_pickOfSymbol.2.1 11 = .ok (.getfield 48, 3) := by decide +kernel
theorem d_Block_pickOfSymbol_14 : decode M_Block_pickOfSymbol.2.1 14 = .ok (.if_icmp .ge 12, 3) := by decide +kernel
theorem d_Block_pickOfSymbol_17 : decode M_Block_pickOfSymbol.2.1 17 = .ok (.aload_n 0, 1) := by decide +kernel
theorem d_Block_pickOfSymbol_18 : decode M_Block_pickOfSymbol.2.1 18 = .ok (.getfield 51, 3) := by decide +kernel
theorem d_Block_pickOfSymbol_21 : decode M_Block_pickOfSymbol.2.1 21 = .ok (.iload_n 2, 1) := by decide +kernel
theorem d_Block_pickOfSymbol_22 : decode M_Block_pickOfSymbol.2.1 22 = .ok (.iaload, 1) := by decide +kernel
theorem d_Block_pickOfSymbol_23 : decode M_Block_pickOfSymbol.2.1 23 = .ok (.goto 4, 3) := by decide +kernel
theorem d_Block_pickOfSymbol_26 : decode M_Block_pickOfSymbol.2.1 26 = .ok (.iconst 0, 1) := by decide +kernel
theorem d_Block_pickOfSymbol_27 : decode M_Block_pickOfSymbol.2.1 27 = .ok (.ireturn, 1) := by decide +kernel
theorem d_BlockMaker_init_0 : decode M_BlockMaker_init.2.1 0 = .ok (.aload_n 0, 1) := by decide +kernel
theorem d_BlockMaker_init_1 : decode M_BlockMaker_init.2.1 1 = .ok (.invokespecial 3, 3) := by decide +kernel
theorem d_BlockMaker_init_4 : decode M_BlockMaker_init.2.1 4 = .ok (.aload_n 0, 1) := by decide +kernel
theorem d_BlockMaker_init_5 : decode M_BlockMaker_init.2.1 5 = .ok (.bipush 64, 2) := by decide +kernel
theorem d_BlockMaker_init_7 : decode M_BlockMaker_init.2.1 7 = .ok (.newarray .int, 2) := by decide +kernel
theorem d_BlockMaker_init_9 : decode M_BlockMaker_init.2.1 9 = .ok (.putfield 9, 3) := by decide +kernel
theorem d_BlockMaker_init_12 : decode M_BlockMaker_init.2.1 12 = .ok (.aload_n 0, 1) := by decide +kernel
theorem d_BlockMaker_init_13 : decode M_BlockMaker_init.2.1 13 = .ok (.sipush 256, 3) := by decide +kernel
theorem d_BlockMaker_init_16 : decode M_BlockMaker_init.2.1 16 = .ok (.newarray .int, 2) := by decide +kernel
theorem d_BlockMaker_init_18 : decode M_BlockMaker_init.2.1 18 = .ok (.putfield 15, 3) := by decide +kernel
theorem d_BlockMaker_init_21 : decode M_BlockMaker_init.2.1 21 = .ok (.aload_n 0, 1) := by decide +kernel
theorem d_BlockMaker_init_22 : decode M_BlockMaker_init.2.1 22 = .ok (.new 18, 3) := by decide +kernel
theorem d_BlockMaker_init_25 : decode M_BlockMaker_init.2.1 25 = .ok (.dup, 1) := by decide +kernel
theorem d_BlockMaker_init_26 : decode M_BlockMaker_init.2.1 26 = .ok (.invokespecial 20, 3) := by decide +kernel
theorem d_BlockMaker_init_29 : decode M_BlockMaker_init.2.1 29 = .ok (.putfield 21, 3) := by decide +kernel
theorem d_BlockMaker_init_32 : decode M_BlockMaker_init.2.1 32 = .ok (.aload_n 0, 1) := by decide +kernel
theorem d_BlockMaker_init_33 : decode M_BlockMaker_init.2.1 33 = .ok (.new 25, 3) := by decide +kernel
theorem d_BlockMaker_init_36 : decode M_BlockMaker_init.2.1 36 = .ok (.dup, 1) := by decide +kernel
theorem d_BlockMaker_init_37 : decode M_BlockMaker_init.2.1 37 = .ok (.invokespecial 27, 3) := by decide +kernel
theorem d_BlockMaker_init_40 : decode M_BlockMaker_init.2.1 40 = .ok (.putfield 28, 3) := by decide +kernel
theorem d_BlockMaker_init_43 : decode M_BlockMaker_init.2.1 43 = .ok (.return_, 1) := by decide +kernel
theorem d_BlockMaker_makeBlock_0 : decode M_BlockMaker_makeBlock.2.1 0 = .ok (.aload_n 1, 1) := by decide +kernel
theorem d_BlockMaker_makeBlock_1 : decode M_BlockMaker_makeBlock.2.1 1 = .ok (.aload_n 2, 1) := by decide +kernel
theorem d_BlockMaker_makeBlock_2 : decode M_BlockMaker_makeBlock.2.1 2 = .ok (.iload_n 3, 1) := by decide +kernel
theorem d_BlockMaker_makeBlock_3 : decode M_BlockMaker_makeBlock.2.1 3 = .ok (.iload 4, 2) := by decide +kernel
theorem d_BlockMaker_makeBlock_5 : decode M_BlockMaker_makeBlock.2.1 5 = .ok (.invokestatic 32, 3) := by decide +kernel
theorem d_BlockMaker_makeBlock_8 : decode M_BlockMaker_makeBlock.2.1 8 = .ok (.istore 5, 2) := by decide +kernel
theorem d_BlockMaker_makeBlock_10 : decode M_BlockMaker_makeBlock.2.1 10 = .ok (.aload_n 1, 1) := by decide +kernel
theorem d_BlockMaker_makeBlock_11 : decode M_BlockMaker_makeBlock.2.1 11 = .ok (.aload_n 2, 1) := by decide +kernel
theorem d_BlockMaker_makeBlock_12 : decode M_BlockMaker_makeBlock.2.1 12 = .ok (.iload_n 3, 1) := by decide +kernel
theorem d_BlockMaker_makeBlock_13 : decode M_BlockMaker_makeBlock.2.1 13 = .ok (.iload 5, 2) := by decide +kernel
theorem d_BlockMaker_makeBlock_15 : decode M_BlockMaker_makeBlock.2.1 15 = .ok (.invokestatic 36, 3) := by decide +kernel
theorem d_BlockMaker_makeBlock_18 : decode M_BlockMaker_makeBlock.2.1 18 = .ok (.putfield 40, 3) := by decide +kernel
theorem d_BlockMaker_makeBlock_21 : decode M_BlockMaker_makeBlock.2.1 21 = .ok (.aload_n 0, 1) := by decide +kernel
theorem d_BlockMaker_makeBlock_22 : decode M_BlockMaker_makeBlock.2.1 22 = .ok (.aload_n 1, 1) := by decide +kernel
theorem d_BlockMaker_makeBlock_23 : decode M_BlockMaker_makeBlock.2.1 23 = .ok (.invokevirtual 46, 3) := by decide +kernel
theorem d_BlockMaker_makeBlock_26 : decode M_BlockMaker_makeBlock.2.1 26 = .ok (.aload_n 0, 1) := by decide +kernel
theorem d_BlockMaker_makeBlock_27 : decode M_BlockMaker_makeBlock.2.1 27 = .ok (.aload_n 1, 1) := by decide +kernel
theorem d_BlockMaker_makeBlock_28 : decode M_BlockMaker_makeBlock.2.1 28 = .ok (.invokevirtual 50, 3) := by decide +kernel
theorem d_BlockMaker_makeBlock_31 : decode M_BlockMaker_makeBlock.2.1 31 = .ok (.aload_n 0, 1) := by decide +kernel
theorem d_BlockMaker_makeBlock_32 : decode M_BlockMaker_makeBlock.2.1 32 = .ok (.aload_n 1, 1) := by decide +kernel
theorem d_BlockMaker_makeBlock_33 : decode M_BlockMaker_makeBlock.2.1 33 = .ok (.invokevirtual 53, 3) := by decide +kernel
theorem d_BlockMaker_makeBlock_36 : decode M_BlockMaker_makeBlock.2.1 36 = .ok (.aload_n 0, 1) := by decide +kernel
theorem d_BlockMaker_makeBlock_37 : decode M_BlockMaker_makeBlock.2.1 37 = .ok (.aload_n 1, 1) := by decide +kernel
theorem d_BlockMaker_makeBlock_38 : decode M_BlockMaker_makeBlock.2.1 38 = .ok (.invokevirtual 56, 3) := by decide +kernel
theorem d_BlockMaker_makeBlock_41 : decode M_BlockMaker_makeBlock.2.1 41 = .ok (.aload_n 0, 1) := by decide +kernel
theorem d_BlockMaker_makeBlock_42 : decode M_BlockMaker_makeBlock.2.1 42 = .ok (.getfield 28, 3) := by decide +kernel
theorem d_BlockMaker_makeBlock_45 : decode M_BlockMaker_makeBlock.2.1 45 = .ok (.aload_n 1, 1) := by decide +kernel
theorem d_BlockMaker_makeBlock_46 : decode M_BlockMaker_makeBlock.2.1 46 = .ok (.invokevirtual 59, 3) := by decide +kernel
theorem d_BlockMaker_makeBlock_49 : decode M_BlockMaker_makeBlock.2.1 49 = .ok (.iload 5, 2) := by decide +kernel
theorem d_BlockMaker_makeBlock_51 : decode M_BlockMaker_makeBlock.2.1 51 = .ok (.ireturn, 1) := by decide +kernel
theorem d_BlockMaker_shorten_0 : decode M_BlockMaker_shorten.2.1 0 = .ok (.aload_n 0, 1) := by decide +kernel
theorem d_BlockMaker_shorten_1 : decode M_BlockMaker_shorten.2.1 1 = .ok (.iconst 0, 1) := by decide +kernel
theorem d_BlockMaker_shorten_2 : decode M_BlockMaker_shorten.2.1 2 = .ok (.putfield 62, 3) := by decide +kernel
theorem d_BlockMaker_shorten_5 : decode M_BlockMaker_shorten.2.1 5 = .ok (.iconst 0, 1) := by decide +kernel
theorem d_BlockMaker_shorten_6 : decode M_BlockMaker_shorten.2.1 6 = .ok (.istore 4, 2) := by decide +kernel
theorem d_BlockMaker_shorten_8 : decode M_BlockMaker_shorten.2.1 8 = .ok (.iload_n 2, 1) := by decide +kernel
theorem d_BlockMaker_shorten_9 : decode M_BlockMaker_shorten.2.1 9 = .ok (.istore 5, 2) := by decide +kernel
theorem d_BlockMaker_shorten_11 : decode M_BlockMaker_shorten.2.1 11 = .ok (.iload 5, 2) := by decide +kernel
theorem d_BlockMaker_shorten_13 : decode M_BlockMaker_shorten.2.1 13 = .ok (.aload_n 1, 1) := by decide +kernel
theorem d_BlockMaker_shorten_14 : decode M_BlockMaker_shorten.2.1 14 = .ok (.getfield 65, 3) := by decide +kernel
theorem d_BlockMaker_shorten_17 : decode M_BlockMaker_shorten.2.1 17 = .ok (.if_icmp .ge 154, 3) := by decide +kernel
theorem d_BlockMaker_shorten_20 : decode M_BlockMaker_shorten.2.1 20 = .ok (.iload 5, 2) := by decide +kernel
theorem d_BlockMaker_shorten_22 : decode M_BlockMaker_shorten.2.1 22 = .ok (.iload_n 2, 1) := by decide +kernel
theorem d_BlockMaker_shorten_23 : decode M_BlockMaker_shorten.2.1 23 = .ok (.if_icmp .le 32, 3) := by decide +kernel
theorem d_BlockMaker_shorten_26 : decode M_BlockMaker_shorten.2.1 26 = .ok (.aload_n 1, 1) := by decide +kernel
theorem d_BlockMaker_shorten_27 : decode M_BlockMaker_shorten.2.1 27 = .ok (.iload 5, 2) := by decide +kernel
theorem d_BlockMaker_shorten_29 : decode M_BlockMaker_shorten.2.1 29 = .ok (.invokevirtual 68, 3) := by decide +kernel
theorem d_BlockMaker_shorten_32 : decode M_BlockMaker_shorten.2.1 32 = .ok (.aload_n 1, 1) := by decide +kernel
theorem d_BlockMaker_shorten_33 : decode M_BlockMaker_shorten.2.1 33 = .ok (.iload 5, 2) := by decide +kernel
theorem d_BlockMaker_shorten_35 : decode M_BlockMaker_shorten.2.1 35 = .ok (.iconst 1, 1) := by decide +kernel
theorem d_BlockMaker_shorten_36 : decode M_BlockMaker_shorten.2.1 36 = .ok (.isub, 1) := by decide +kernel
theorem d_BlockMaker_shorten_37 : decode M_BlockMaker_shorten.2.1 37 = .ok (.invokevirtual 68, 3) := by decide +kernel
theorem d_BlockMaker_shorten_40 : decode M_BlockMaker_shorten.2.1 40 = .ok (.if_icmp .ne 15, 3) := by decide +kernel
theorem d_BlockMaker_shorten_43 : decode M_BlockMaker_shorten.2.1 43 = .ok (.iload 4, 2) := by decide +kernel
theorem d_BlockMaker_shorten_45 : decode M_BlockMaker_shorten.2.1 45 = .ok (.sipush 255, 3) := by decide +kernel
theorem d_BlockMaker_shorten_48 : decode M_BlockMaker_shorten.2.1 48 = .ok (.if_icmp .ge 7, 3) := by decide +kernel
theorem d_BlockMaker_shorten_51 : decode M_BlockMaker_shorten.2.1 51 = .ok (.iconst 1, 1) := by decide +kernel
theorem d_BlockMaker_shorten_52 : decode M_BlockMaker_shorten.2.1 52 = .ok (.goto 4, 3) := by decide +kernel
theorem d_BlockMaker_shorten_55 : decode M_BlockMaker_shorten.2.1 55 = .ok (.iconst 0, 1) := by decide +kernel
theorem d_BlockMaker_shorten_56 : decode M_BlockMaker_shorten.2.1 56 = .ok (.istore 6, 2) := by decide +kernel
theorem d_BlockMaker_shorten_58 : decode M_BlockMaker_shorten.2.1 58 = .ok (.iload 6, 2) := by decide +kernel
theorem d_BlockMaker_shorten_60 : decode M_BlockMaker_shorten.2.1 60 = .ok (.ifCond .eq 10, 3) := by decide +kernel
theorem d_BlockMaker_shorten_63 : decode M_BlockMaker_shorten.2.1 63 = .ok (.iload 4, 2) := by decide +kernel
theorem d_BlockMaker_shorten_65 : decode M_BlockMaker_shorten.2.1 65 = .ok (.iconst 1, 1) := by decide +kernel
theorem d_BlockMaker_shorten_66 : decode M_BlockMaker_shorten.2.1 66 = .ok (.iadd, 1) := by decide +kernel
theorem d_BlockMaker_shorten_67 : decode M_BlockMaker_shorten.2.1 67 = .ok (.goto 4, 3) := by decide +kernel
theorem d_BlockMaker_shorten_70 : decode M_BlockMaker_shorten.2.1 70 = .ok (.iconst 1, 1) := by decide +kernel
theorem d_BlockMaker_shorten_71 : decode M_BlockMaker_shorten.2.1 71 = .ok (.istore 4, 2) := by decide +kernel
theorem d_BlockMaker_shorten_73 : decode M_BlockMaker_shorten.2.1 73 = .ok (.iload 4, 2) := by decide +kernel
theorem d_BlockMaker_shorten_75 : decode M_BlockMaker_shorten.2.1 75 = .ok (.iconst 4, 1) := by decide +kernel
theorem d_BlockMaker_shorten_76 : decode M_BlockMaker_shorten.2.1 76 = .ok (.if_icmp .ge 7, 3) := by decide +kernel
theorem d_BlockMaker_shorten_79 : decode M_BlockMaker_shorten.2.1 79 = .ok (.iconst 1, 1) := by decide +kernel
theorem d_BlockMaker_shorten_80 : decode M_BlockMaker_shorten.2.1 80 = .ok (.goto 14, 3) := by decide +kernel
theorem d_BlockMaker_shorten_83 : decode M_BlockMaker_shorten.2.1 83 = .ok (.iload 4, 2) := by decide +kernel
theorem d_BlockMaker_shorten_85 : decode M_BlockMaker_shorten.2.1 85 = .ok (.iconst 4, 1) := by decide +kernel
theorem d_BlockMaker_shorten_86 : decode M_BlockMaker_shorten.2.1 86 = .ok (.if_icmp .ne 7, 3) := by decide +kernel
theorem d_BlockMaker_shorten_89 : decode M_BlockMaker_shorten.2.1 89 = .ok (.iconst 2, 1) := by decide +kernel
theorem d_BlockMaker_shorten_90 : decode M_BlockMaker_shorten.2.1 90 = .ok (.goto 4, 3) := by decide +kernel
theorem d_BlockMaker_shorten_93 : decode M_BlockMaker_shorten.2.1 93 = .ok (.iconst 0, 1) := by decide +kernel
theorem d_BlockMaker_shorten_94 : decode M_BlockMaker_shorten.2.1 94 = .ok (.istore 7, 2) := by decide +kernel
theorem d_BlockMaker_shorten_96 : decode M_BlockMaker_shorten.2.1 96 = .ok (.aload_n 0, 1) := by decide +kernel
theorem d_BlockMaker_shorten_97 : decode M_BlockMaker_shorten.2.1 97 = .ok (.getfield 62, 3) := by decide +kernel
theorem d_BlockMaker_shorten_100 : decode M_BlockMaker_shorten.2.1 100 = .ok (.iload 7, 2) := by decide +kernel
theorem d_BlockMaker_shorten_102 : decode M_BlockMaker_shorten.2.1 102 = .ok (.iadd, 1) := by decide +kernel
theorem d_BlockMaker_shorten_103 : decode M_BlockMaker_shorten.2.1 103 = .ok (.iload_n 3, 1) := by decide +kernel
theorem d_BlockMaker_shorten_104 : decode M_BlockMaker_shorten.2.1 104 = .ok (.if_icmp .le 6, 3) := by decide +kernel
theorem d_BlockMaker_shorten_107 : decode M_BlockMaker_shorten.2.1 107 = .ok (.iload 5, 2) := by decide +kernel
theorem d_BlockMaker_shorten_109 : decode M_BlockMaker_shorten.2.1 109 = .ok (.ireturn, 1) := by decide +kernel
theorem d_BlockMaker_shorten_110 : decode M_BlockMaker_shorten.2.1 110 = .ok (.iload 4, 2) := by decide +kernel
theorem d_BlockMaker_shorten_112 : decode M_BlockMaker_shorten.2.1 112 = .ok (.iconst 4, 1) := by decide +kernel
theorem d_BlockMaker_shorten_113 : decode M_BlockMaker_shorten.2.1 113 = .ok (.if_icmp .gt 13, 3) := by decide +kernel
theorem d_BlockMaker_shorten_116 : decode M_BlockMaker_shorten.2.1 116 = .ok (.aload_n 0, 1) := by decide +kernel
theorem d_BlockMaker_shorten_117 : decode M_BlockMaker_shorten.2.1 117 = .ok (.aload_n 1, 1) := by decide +kernel
theorem d_BlockMaker_shorten_118 : decode M_BlockMaker_shorten.2.1 118 = .ok (.iload 5, 2) := by decide +kernel
theorem d_BlockMaker_shorten_120 : decode M_BlockMaker_shorten.2.1 120 = .ok (.invokevirtual 68, 3) := by decide +kernel
theorem d_BlockMaker_shorten_123 : decode M_BlockMaker_shorten.2.1 123 = .ok (.invokevirtual 72, 3) := by decide +kernel
theorem d_BlockMaker_shorten_126 : decode M_BlockMaker_shorten.2.1 126 = .ok (.iload 4, 2) := by decide +kernel
theorem d_BlockMaker_shorten_128 : decode M_BlockMaker_shorten.2.1 128 = .ok (.iconst 4, 1) := by decide +kernel
theorem d_BlockMaker_shorten_129 : decode M_BlockMaker_shorten.2.1 129 = .ok (.if_icmp .ne 8, 3) := by decide +kernel
theorem d_BlockMaker_shorten_132 : decode M_BlockMaker_shorten.2.1 132 = .ok (.aload_n 0, 1) := by decide +kernel
theorem d_BlockMaker_shorten_133 : decode M_BlockMaker_shorten.2.1 133 = .ok (.iconst 0, 1) := by decide +kernel
theorem d_BlockMaker_shorten_134 : decode M_BlockMaker_shorten.2.1 134 = .ok (.invokevirtual 72, 3) := by decide +kernel
theorem d_BlockMaker_shorten_137 : decode M_BlockMaker_shorten.2.1 137 = .ok (.iload 4, 2) := by decide +kernel
theorem d_BlockMaker_shorten_139 : decode M_BlockMaker_shorten.2.1 139 = .ok (.iconst 4, 1) := by decide +kernel
theorem d_BlockMaker_shorten_140 : decode M_BlockMaker_shorten.2.1 140 = .ok (.if_icmp .le 25, 3) := by decide +kernel
theorem d_BlockMaker_shorten_143 : decode M_BlockMaker_shorten.2.1 143 = .ok (.aload_n 0, 1) := by decide +kernel
theorem d_BlockMaker_shorten_144 : decode M_BlockMaker_shorten.2.1 144 = .ok (.getfield 62, 3) := by decide +kernel
theorem d_BlockMaker_shorten_147 : decode M_BlockMaker_shorten.2.1 147 = .ok (.ifCond .le 18, 3) := by decide +kernel
theorem d_BlockMaker_shorten_150 : decode M_BlockMaker_shorten.2.1 150 = .ok (.aload_n 0, 1) := by decide +kernel
theorem d_BlockMaker_shorten_151 : decode M_BlockMaker_shorten.2.1 151 = .ok (.getfield 76, 3) := by decide +kernel
theorem d_BlockMaker_shorten_154 : decode M_BlockMaker_shorten.2.1 154 = .ok (.aload_n 0, 1) := by decide +kernel
theorem d_BlockMaker_shorten_155 : decode M_BlockMaker_shorten.2.1 155 = .ok (.getfield 62, 3) := by decide +kernel
theorem d_BlockMaker_shorten_158 : decode M_BlockMaker_shorten.2.1 158 = .ok (.iconst 1, 1) := by decide +kernel
theorem d_BlockMaker_shorten_159 : decode M_BlockMaker_shorten.2.1 159 = .ok (.isub, 1) := by decide +kernel
theorem d_BlockMaker_shorten_160 : decode M_BlockMaker_shorten.2.1 160 = .ok (.dup2, 1) := by decide +kernel
theorem d_BlockMaker_shorten_161 : decode M_BlockMaker_shorten.2.1 161 = .ok (.iaload, 1) := by decide +kernel
theorem d_BlockMaker_shorten_162 : decode M_BlockMaker_shorten.2.1 162 = .ok (.iconst 1, 1) := by decide +kernel
theorem d_BlockMaker_shorten_163 : decode M_BlockMaker_shorten.2.1 163 = .ok (.iadd, 1) := by decide +kernel
theorem d_BlockMaker_shorten_164 : decode M_BlockMaker_shorten.2.1 164 = .ok (.iastore, 1) := by decide +kernel
theorem d_BlockMaker_shorten_165 : decode M_BlockMaker_shorten.2.1 165 = .ok (.iinc 5 1, 3) := by decide +kernel
theorem d_BlockMaker_shorten_168 : decode M_BlockMaker_shorten.2.1 168 = .ok (.goto (-157), 3) := by decide +kernel
theorem d_BlockMaker_shorten_171 : decode M_BlockMaker_shorten.2.1 171 = .ok (.aload_n 1, 1) := by decide +kernel
theorem d_BlockMaker_shorten_172 : decode M_BlockMaker_shorten.2.1 172 = .ok (.getfield 65, 3) := by decide +kernel
theorem d_BlockMaker_shorten_175 : decode M_BlockMaker_shorten.2.1 175 = .ok (.ireturn, 1) := by decide +kernel
theorem d_BlockMaker_sortRotations_0 : decode M_BlockMaker_sortRotations.2.1 0 = .ok (.iconst 0, 1) := by decide +kernel
theorem d_BlockMaker_sortRotations_1 : decode M_BlockMaker_sortRotations.2.1 1 = .ok (.istore_n 2, 1) := by decide +kernel
theorem d_BlockMaker_sortRotations_2 : decode M_BlockMaker_sortRotations.2.1 2 = .ok (.iload_n 2, 1) := by decide +kernel
theorem d_BlockMaker_sortRotations_3 : decode M_BlockMaker_sortRotations.2.1 3 = .ok (.aload_n 1, 1) := by decide +kernel
theorem d_BlockMaker_sortRotations_4 : decode M_BlockMaker_sortRotations.2.1 4 = .ok (.getfield 62, 3) := by decide +kernel
theorem d_BlockMaker_sortRotations_7 : decode M_BlockMaker_sortRotations.2.1 7 = .ok (.if_icmp .ge 83, 3) := by decide +kernel
theorem d_BlockMaker_sortRotations_10 : decode M_BlockMaker_sortRotations.2.1 10 = .ok (.iconst 0, 1) := by decide +kernel
theorem d_BlockMaker_sortRotations_11 : decode M_BlockMaker_sortRotations.2.1 11 = .ok (.istore_n 3, 1) := by decide +kernel
theorem d_BlockMaker_sortRotations_12 : decode M_BlockMaker_sortRotations.2.1 12 = .ok (.iload_n 2, 1) := by decide +kernel
theorem d_BlockMaker_sortRotations_13 : decode M_BlockMaker_sortRotations.2.1 13 = .ok (.istore 4, 2) := by decide +kernel
theorem d_BlockMaker_sortRotations_15 : decode M_BlockMaker_sortRotations.2.1 15 = .ok (.iload_n 3, 1) := by decide +kernel
theorem d_BlockMaker_sortRotations_16 : decode M_BlockMaker_sortRotations.2.1 16 = .ok (.iload 4, 2) := by decide +kernel
theorem d_BlockMaker_sortRotations_18 : decode M_BlockMaker_sortRotations.2.1 18 = .ok (.if_icmp .ge 41, 3) := by decide +kernel
theorem d_BlockMaker_sortRotations_21 : decode M_BlockMaker_sortRotations.2.1 21 = .ok (.iload_n 3, 1) := by decide +kernel
theorem d_BlockMaker_sortRotations_22 : decode M_BlockMaker_sortRotations.2.1 22 = .ok (.iload 4, 2) := by decide +kernel
theorem d_BlockMaker_sortRotations_24 : decode M_BlockMaker_sortRotations.2.1 24 = .ok (.iadd, 1) := by decide +kernel
theorem d_BlockMaker_sortRotations_25 : decode M_BlockMaker_sortRotations.2.1 25 = .ok (.iconst 2, 1) := by decide +kernel
theorem d_BlockMaker_sortRotations_26 : decode M_BlockMaker_sortRotations.2.1 26 = .ok (.idiv, 1) := by decide +kernel
theorem d_BlockMaker_sortRotations_27 : decode M_BlockMaker_sortRotations.2.1 27 = .ok (.istore 5, 2) := by decide +kernel
theorem d_BlockMaker_sortRotations_29 : decode M_BlockMaker_sortRotations.2.1 29 = .ok (.aload_n 1, 1) := by decide +kernel
theorem d_BlockMaker_sortRotations_30 : decode M_BlockMaker_sortRotations.2.1 30 = .ok (.iload_n 2, 1) := by decide +kernel
theorem d_BlockMaker_sortRotations_31 : decode M_BlockMaker_sortRotations.2.1 31 = .ok (.aload_n 0, 1) := by decide +kernel
theorem d_BlockMaker_sortRotations_32 : decode M_BlockMaker_sortRotations.2.1 32 = .ok (.getfield 9, 3) := by decide +kernel
theorem d_BlockMaker_sortRotations_35 : decode M_BlockMaker_sortRotations.2.1 35 = .ok (.iload 5, 2) := by decide +kernel
theorem d_BlockMaker_sortRotations_37 : decode M_BlockMaker_sortRotations.2.1 37 = .ok (.iaload, 1) := by decide +kernel
theorem d_BlockMaker_sortRotations_38 : decode M_BlockMaker_sortRotations.2.1 38 = .ok (.invokestatic 79, 3) := by decide +kernel
theorem d_BlockMaker_sortRotations_41 : decode M_BlockMaker_sortRotations.2.1 41 = .ok (.ifCond .eq 10, 3) := by decide +kernel
theorem d_BlockMaker_sortRotations_44 : decode M_BlockMaker_sortRotations.2.1 44 = .ok (.iload 5, 2) := by decide +kernel
theorem d_BlockMaker_sortRotations_46 : decode M_BlockMaker_sortRotations.2.1 46 = .ok (.istore 4, 2) := by decide +kernel
theorem d_BlockMaker_sortRotations_48 : decode M_BlockMaker_sortRotations.2.1 48 = .ok (.goto 8, 3) := by decide +kernel
theorem d_BlockMaker_sortRotations_51 : decode M_BlockMaker_sortRotations.2.1 51 = .ok (.iload 5, 2) := by decide +kernel
theorem d_BlockMaker_sortRotations_53 : decode M_BlockMaker_sortRotations.2.1 53 = .ok (.iconst 1, 1) := by decide +kernel
theorem d_BlockMaker_sortRotations_54 : decode M_BlockMaker_sortRotations.2.1 54 = .ok (.iadd, 1) := by decide +kernel
theorem d_BlockMaker_sortRotations_55 : decode M_BlockMaker_sortRotations.2.1 55 = .ok (.istore_n 3, 1) := by decide +kernel
theorem d_BlockMaker_sortRotations_56 : decode M_BlockMaker_sortRotations.2.1 56 = .ok (.goto (-41), 3) := by decide +kernel
theorem d_BlockMaker_sortRotations_59 : decode M_BlockMaker_sortRotations.2.1 59 = .ok (.aload_n 0, 1) := by decide +kernel
theorem d_BlockMaker_sortRotations_60 : decode M_BlockMaker_sortRotations.2.1 60 = .ok (.getfield 9, 3) := by decide +kernel
theorem d_BlockMaker_sortRotations_63 : decode M_BlockMaker_sortRotations.2.1 63 = .ok (.iload_n 3, 1) := by decide +kernel
theorem d_BlockMaker_sortRotations_64 : decode M_BlockMaker_sortRotations.2.1 64 = .ok (.aload_n 0, 1) := by decide +kernel
theorem d_BlockMaker_sortRotations_65 : decode M_BlockMaker_sortRotations.2.1 65 = .ok (.getfield 9, 3) := by decide +kernel
theorem d_BlockMaker_sortRotations_68 : decode M_BlockMaker_sortRotations.2.1 68 = .ok (.iload_n 3, 1) := by decide +kernel
theorem d_BlockMaker_sortRotations_69 : decode M_BlockMaker_sortRotations.2.1 69 = .ok (.iconst 1, 1) := by decide +kernel
theorem d_BlockMaker_sortRotations_70 : decode M_BlockMaker_sortRotations.2.1 70 = .ok (.iadd, 1) := by decide +kernel
theorem d_BlockMaker_sortRotations_71 : decode M_BlockMaker_sortRotations.2.1 71 = .ok (.iload_n 2, 1) := by decide +kernel
theorem d_BlockMaker_sortRotations_72 : decode M_BlockMaker_sortRotations.2.1 72 = .ok (.iload_n 3, 1) := by decide +kernel
theorem d_BlockMaker_sortRotations_73 : decode M_BlockMaker_sortRotations.2.1 73 = .ok (.isub, 1) := by decide +kernel
theorem d_BlockMaker_sortRotations_74 : decode M_BlockMaker_sortRotations.2.1 74 = .ok (.invokestatic 83, 3) := by decide +kernel
theorem d_BlockMaker_sortRotations_77 : decode M_BlockMaker_sortRotations.2.1 77 = .ok (.aload_n 0, 1) := by decide +kernel
theorem d_BlockMaker_sortRotations_78 : decode M_BlockMaker_sortRotations.2.1 78 = .ok (.getfield 9, 3) := by decide +kernel
theorem d_BlockMaker_sortRotations_81 : decode M_BlockMaker_sortRotations.2.1 81 = .ok (.iload_n 3, 1) := by decide +kernel
theorem d_BlockMaker_sortRotations_82 : decode M_BlockMaker_sortRotations.2.1 82 = .ok (.iload_n 2, 1) := by decide +kernel
theorem d_BlockMaker_sortRotations_83 : decode M_BlockMaker_sortRotations.2.1 83 = .ok (.iastore, 1) := by decide +kernel
theorem d_BlockMaker_sortRotations_84 : decode M_BlockMaker_sortRotations.2.1 84 = .ok (.iinc 2 1, 3) := by decide +kernel
theorem d_BlockMaker_sortRotations_87 : decode M_BlockMaker_sortRotations.2.1 87 = .ok (.goto (-85), 3) := by decide +kernel
theorem d_BlockMaker_sortRotations_90 : decode M_BlockMaker_sortRotations.2.1 90 = .ok (.return_, 1) := by decide +kernel
theorem d_BlockMaker_isBefore_0 : decode M_BlockMaker_isBefore.2.1 0 = .ok (.iconst 0, 1) := by decide +kernel
theorem d_BlockMaker_isBefore_1 : decode M_BlockMaker_isBefore.2.1 1 = .ok (.istore_n 3, 1) := by decide +kernel
theorem d_BlockMaker_isBefore_2 : decode M_BlockMaker_isBefore.2.1 2 = .ok (.iload_n 3, 1) := by decide +kernel
theorem d_BlockMaker_isBefore_3 : decode M_BlockMaker_isBefore.2.1 3 = .ok (.aload_n 0, 1) := by decide +kernel
theorem d_BlockMaker_isBefore_4 : decode M_BlockMaker_isBefore.2.1 4 = .ok (.getfield 62, 3) := by decide +kernel
theorem d_BlockMaker_isBefore_7 : decode M_BlockMaker_isBefore.2.1 7 = .ok (.if_icmp .ge 59, 3) := by decide +kernel
theorem d_BlockMaker_isBefore_10 : decode M_BlockMaker_isBefore.2.1 10 = .ok (.aload_n 0, 1) := by decide +kernel
theorem d_BlockMaker_isBefore_11 : decode M_BlockMaker_isBefore.2.1 11 = .ok (.getfield 76, 3) := by decide +kernel
theorem d_BlockMaker_isBefore_14 : decode M_BlockMaker_isBefore.2.1 14 = .ok (.iload_n 1, 1) := by decide +kernel
theorem d_BlockMaker_isBefore_15 : decode M_BlockMaker_isBefore.2.1 15 = .ok (.iload_n 3, 1) := by decide +kernel
theorem d_BlockMaker_isBefore_16 : decode M_BlockMaker_isBefore.2.1 16 = .ok (.iadd, 1) := by decide +kernel
theorem d_BlockMaker_isBefore_17 : decode M_BlockMaker_isBefore.2.1 17 = .ok (.aload_n 0, 1) := by decide +kernel
theorem d_BlockMaker_isBefore_18 : decode M_BlockMaker_isBefore.2.1 18 = .ok (.getfield 62, 3) := by decide +kernel
theorem d_BlockMaker_isBefore_21 : decode M_BlockMaker_isBefore.2.1 21 = .ok (.irem, 1) := by decide +kernel
theorem d_BlockMaker_isBefore_22 : decode M_BlockMaker_isBefore.2.1 22 = .ok (.iaload, 1) := by decide +kernel
theorem d_BlockMaker_isBefore_23 : decode M_BlockMaker_isBefore.2.1 23 = .ok (.istore 4, 2) := by decide +kernel
theorem d_BlockMaker_isBefore_25 : decode M_BlockMaker_isBefore.2.1 25 = .ok (.aload_n 0, 1) := by decide +kernel
theorem d_BlockMaker_isBefore_26 : decode M_BlockMaker_isBefore.2.1 26 = .ok (.getfield 76, 3) := by decide +kernel
theorem d_BlockMaker_isBefore_29 : decode M_BlockMaker_isBefore.2.1 29 = .ok (.iload_n 2, 1) := by decide +kernel
theorem d_BlockMaker_isBefore_30 : decode M_BlockMaker_isBefore.2.1 30 = .ok (.iload_n 3, 1) := by decide +kernel
theorem d_BlockMaker_isBefore_31 : decode M_BlockMaker_isBefore.2.1 31 = .ok (.iadd, 1) := by decide +kernel
theorem d_BlockMaker_isBefore_32 : decode M_BlockMaker_isBefore.2.1 32 = .ok (.aload_n 0, 1) := by decide +kernel
theorem d_BlockMaker_isBefore_33 : decode M_BlockMaker_isBefore.2.1 33 = .ok (.getfield 62, 3) := by decide +kernel
theorem d_BlockMaker_isBefore_36 : decode M_BlockMaker_isBefore.2.1 36 = .ok (.irem, 1) := by decide +kernel
theorem d_BlockMaker_isBefore_37 : decode M_BlockMaker_isBefore.2.1 37 = .ok (.iaload, 1) := by decide +kernel
theorem d_BlockMaker_isBefore_38 : decode M_BlockMaker_isBefore.2.1 38 = .ok (.istore 5, 2) := by decide +kernel
theorem d_BlockMaker_isBefore_40 : decode M_BlockMaker_isBefore.2.1 40 = .ok (.iload 4, 2) := by decide +kernel
theorem d_BlockMaker_isBefore_42 : decode M_BlockMaker_isBefore.2.1 42 = .ok (.iload 5, 2) := by decide +kernel
theorem d_BlockMaker_isBefore_44 : decode M_BlockMaker_isBefore.2.1 44 = .ok (.if_icmp .eq 16, 3) := by decide +kernel
theorem d_BlockMaker_isBefore_47 : decode M_BlockMaker_isBefore.2.1 47 = .ok (.iload 4, 2) := by decide +kernel
theorem d_BlockMaker_isBefore_49 : decode M_BlockMaker_isBefore.2.1 49 = .ok (.iload 5, 2) := by decide +kernel
theorem d_BlockMaker_isBefore_51 : decode M_BlockMaker_isBefore.2.1 51 = .ok (.if_icmp .ge 7, 3) := by decide +kernel
theorem d_BlockMaker_isBefore_54 : decode M_BlockMaker_isBefore.2.1 54 = .ok (.iconst 1, 1) := by decide +kernel
theorem d_BlockMaker_isBefore_55 : decode M_BlockMaker_isBefore.2.1 55 = .ok (.goto 4, 3) := by decide +kernel
theorem d_BlockMaker_isBefore_58 : decode M_BlockMaker_isBefore.2.1 58 = .ok (.iconst 0, 1) := by decide +kernel
theorem d_BlockMaker_isBefore_59 : decode M_BlockMaker_isBefore.2.1 59 = .ok (.ireturn, 1) := by decide +kernel
theorem d_BlockMaker_isBefore_60 : decode M_BlockMaker_isBefore.2.1 60 = .ok (.iinc 3 1, 3) := by decide +kernel
theorem d_BlockMaker_isBefore_63 : decode M_BlockMaker_isBefore.2.1 63 = .ok (.goto (-61), 3) := by decide +kernel
theorem d_BlockMaker_isBefore_66 : decode M_BlockMaker_isBefore.2.1 66 = .ok (.iconst 0, 1) := by decide +kernel
theorem d_BlockMaker_isBefore_67 : decode M_BlockMaker_isBefore.2.1 67 = .ok (.ireturn, 1) := by decide +kernel
theorem d_BlockMaker_readOrder_0 : decode M_BlockMaker_readOrder.2.1 0 = .ok (.iconst 0, 1) := by decide +kernel
theorem d_BlockMaker_readOrder_1 : decode M_BlockMaker_readOrder.2.1 1 = .ok (.istore_n 2, 1) := by decide +kernel
theorem d_BlockMaker_readOrder_2 : decode M_BlockMaker_readOrder.2.1 2 = .ok (.iload_n 2, 1) := by decide +kernel
theorem d_BlockMaker_readOrder_3 : decode M_BlockMaker_readOrder.2.1 3 = .ok (.aload_n 1, 1) := by decide +kernel
theorem d_BlockMaker_readOrder_4 : decode M_BlockMaker_readOrder.2.1 4 = .ok (.getfield 62, 3) := by decide +kernel
theorem d_BlockMaker_readOrder_7 : decode M_BlockMaker_readOrder.2.1 7 = .ok (.if_icmp .ge 52, 3) := by decide +kernel
theorem d_BlockMaker_readOrder_10 : decode M_BlockMaker_readOrder.2.1 10 = .ok (.aload_n 0, 1) := by decide +kernel
theorem d_BlockMaker_readOrder_11 : decode M_BlockMaker_readOrder.2.1 11 = .ok (.getfield 9, 3) := by decide +kernel
theorem d_BlockMaker_readOrder_14 : decode M_BlockMaker_readOrder.2.1 14 = .ok (.iload_n 2, 1) := by decide +kernel
theorem d_BlockMaker_readOrder_15 : decode M_BlockMaker_readOrder.2.1 15 = .ok (.iaload, 1) := by decide +kernel
theorem d_BlockMaker_readOrder_16 : decode M_BlockMaker_readOrder.2.1 16 = .ok (.istore_n 3, 1) := by decide +kernel
theorem d_BlockMaker_readOrder_17 : decode M_BlockMaker_readOrder.2.1 17 = .ok (.iload_n 3, 1) := by decide +kernel
theorem d_BlockMaker_readOrder_18 : decode M_BlockMaker_readOrder.2.1 18 = .ok (.ifCond .ne 8, 3) := by decide +kernel
theorem d_BlockMaker_readOrder_21 : decode M_BlockMaker_readOrder.2.1 21 = .ok (.aload_n 1, 1) := by decide +kernel
theorem d_BlockMaker_readOrder_22 : decode M_BlockMaker_readOrder.2.1 22 = .ok (.iload_n 2, 1) := by decide +kernel
theorem d_BlockMaker_readOrder_23 : decode M_BlockMaker_readOrder.2.1 23 = .ok (.putfield 89, 3) := by decide +kernel
theorem d_BlockMaker_readOrder_26 : decode M_BlockMaker_readOrder.2.1 26 = .ok (.aload_n 1, 1) := by decide +kernel
theorem d_BlockMaker_readOrder_27 : decode M_BlockMaker_readOrder.2.1 27 = .ok (.getfield 92, 3) := by decide +kernel
theorem d_BlockMaker_readOrder_30 : decode M_BlockMaker_readOrder.2.1 30 = .ok (.iload_n 2, 1) := by decide +kernel
theorem d_BlockMaker_readOrder_31 : decode M_BlockMaker_readOrder.2.1 31 = .ok (.aload_n 1, 1) := by decide +kernel
theorem d_BlockMaker_readOrder_32 : decode M_BlockMaker_readOrder.2.1 32 = .ok (.getfield 76, 3) := by decide +kernel
theorem d_BlockMaker_readOrder_35 : decode M_BlockMaker_readOrder.2.1 35 = .ok (.iload_n 3, 1) := by decide +kernel
theorem d_BlockMaker_readOrder_36 : decode M_BlockMaker_readOrder.2.1 36 = .ok (.ifCond .ne 12, 3) := by decide +kernel
theorem d_BlockMaker_readOrder_39 : decode M_BlockMaker_readOrder.2.1 39 = .ok (.aload_n 1, 1) := by decide +kernel
theorem d_BlockMaker_readOrder_40 : decode M_BlockMaker_readOrder.2.1 40 = .ok (.getfield 62, 3) := by decide +kernel
theorem d_BlockMaker_readOrder_43 : decode M_BlockMaker_readOrder.2.1 43 = .ok (.iconst 1, 1) := by decide +kernel
theorem d_BlockMaker_readOrder_44 : decode M_BlockMaker_readOrder.2.1 44 = .ok (.isub, 1) := by decide +kernel
theorem d_BlockMaker_readOrder_45 : decode M_BlockMaker_readOrder.2.1 45 = .ok (.goto 6, 3) := by decide +kernel
theorem d_BlockMaker_readOrder_48 : decode M_BlockMaker_readOrder.2.1 48 = .ok (.iload_n 3, 1) := by decide +kernel
theorem d_BlockMaker_readOrder_49 : decode M_BlockMaker_readOrder.2.1 49 = .ok (.iconst 1, 1) := by decide +kernel
theorem d_BlockMaker_readOrder_50 : decode M_BlockMaker_readOrder.2.1 50 = .ok (.isub, 1) := by decide +kernel
theorem d_BlockMaker_readOrder_51 : decode M_BlockMaker_readOrder.2.1 51 = .ok (.iaload, 1) := by decide +kernel
theorem d_BlockMaker_readOrder_52 : decode M_BlockMaker_readOrder.2.1 52 = .ok (.iastore, 1) := by decide +kernel
theorem d_BlockMaker_readOrder_53 : decode M_BlockMaker_readOrder.2.1 53 = .ok (.iinc 2 1, 3) := by decide +kernel
theorem d_BlockMaker_readOrder_56 : decode M_BlockMaker_readOrder.2.1 56 = .ok (.goto (-54), 3) := by decide +kernel
theorem d_BlockMaker_readOrder_59 : decode M_BlockMaker_readOrder.2.1 59 = .ok (.return_, 1) := by decide +kernel
theorem d_BlockMaker_listKinds_0 : decode M_BlockMaker_listKinds.2.1 0 = .ok (.aload_n 0, 1) := by decide +kernel
theorem d_BlockMaker_listKinds_1 : decode M_BlockMaker_listKinds.2.1 1 = .ok (.getfield 15, 3) := by decide +kernel
theorem d_BlockMaker_listKinds_4 : decode M_BlockMaker_listKinds.2.1 4 = .ok (.iconst 0, 1) := by decide +kernel
theorem d_BlockMaker_listKinds_5 : decode M_BlockMaker_listKinds.2.1 5 = .ok (.invokestatic 95, 3) := by decide +kernel
theorem d_BlockMaker_listKinds_8 : decode M_BlockMaker_listKinds.2.1 8 = .ok (.iconst 0, 1) := by decide +kernel
theorem d_BlockMaker_listKinds_9 : decode M_BlockMaker_listKinds.2.1 9 = .ok (.istore_n 2, 1) := by decide +kernel
theorem d_BlockMaker_listKinds_10 : decode M_BlockMaker_listKinds.2.1 10 = .ok (.iload_n 2, 1) := by decide +kernel
theorem d_BlockMaker_listKinds_11 : decode M_BlockMaker_listKinds.2.1 11 = .ok (.aload_n 1, 1) := by decide +kernel
theorem d_BlockMaker_listKinds_12 : decode M_BlockMaker_listKinds.2.1 12 = .ok (.getfield 62, 3) := by decide +kernel
theorem d_BlockMaker_listKinds_15 : decode M_BlockMaker_listKinds.2.1 15 = .ok (.if_icmp .ge 21, 3) := by decide +kernel
theorem d_BlockMaker_listKinds_18 : decode M_BlockMaker_listKinds.2.1 18 = .ok (.aload_n 0, 1) := by decide +kernel
theorem d_BlockMaker_listKinds_19 : decode M_BlockMaker_listKinds.2.1 19 = .ok (.getfield 15, 3) := by decide +kernel
theorem d_BlockMaker_listKinds_22 : decode M_BlockMaker_listKinds.2.1 22 = .ok (.aload_n 1, 1) := by decide +kernel
theorem d_BlockMaker_listKinds_23 : decode M_BlockMaker_listKinds.2.1 23 = .ok (.getfield 92, 3) := by decide +kernel
theorem d_BlockMaker_listKinds_26 : decode M_BlockMaker_listKinds.2.1 26 = .ok (.iload_n 2, 1) := by decide +kernel
theorem d_BlockMaker_listKinds_27 : decode M_BlockMaker_listKinds.2.1 27 = .ok (.iaload, 1) := by decide +kernel
theorem d_BlockMaker_listKinds_28 : decode M_BlockMaker_listKinds.2.1 28 = .ok (.iconst 1, 1) := by decide +kernel
theorem d_BlockMaker_listKinds_29 : decode M_BlockMaker_listKinds.2.1 29 = .ok (.iastore, 1) := by decide +kernel
theorem d_BlockMaker_listKinds_30 : decode M_BlockMaker_listKinds.2.1 30 = .ok (.iinc 2 1, 3) := by decide +kernel
theorem d_BlockMaker_listKinds_33 : decode M_BlockMaker_listKinds.2.1 33 = .ok (.goto (-23), 3) := by decide +kernel
theorem d_BlockMaker_listKinds_36 : decode M_BlockMaker_listKinds.2.1 36 = .ok (.aload_n 1, 1) := by decide +kernel
theorem d_BlockMaker_listKinds_37 : decode M_BlockMaker_listKinds.2.1 37 = .ok (.iconst 0, 1) := by decide +kernel
theorem d_BlockMaker_listKinds_38 : decode M_BlockMaker_listKinds.2.1 38 = .ok (.putfield 101, 3) := by decide +kernel
theorem d_BlockMaker_listKinds_41 : decode M_BlockMaker_listKinds.2.1 41 = .ok (.iconst 0, 1) := by decide +kernel
theorem d_BlockMaker_listKinds_42 : decode M_BlockMaker_listKinds.2.1 42 = .ok (.istore_n 2, 1) := by decide +kernel
theorem d_BlockMaker_listKinds_43 : decode M_BlockMaker_listKinds.2.1 43 = .ok (.iload_n 2, 1) := by decide +kernel
theorem d_BlockMaker_listKinds_44 : decode M_BlockMaker_listKinds.2.1 44 = .ok (.sipush 256, 3) := by decide +kernel
theorem d_BlockMaker_listKinds_47 : decode M_BlockMaker_listKinds.2.1 47 = .ok (.if_icmp .ge 24, 3) := by decide +kernel
theorem d_BlockMaker_listKinds_50 : decode M_BlockMaker_listKinds.2.1 50 = .ok (.aload_n 0, 1) := by decide +kernel
theorem d_BlockMaker_listKinds_51 : decode M_BlockMaker_listKinds.2.1 51 = .ok (.getfield 15, 3) := by decide +kernel
theorem d_BlockMaker_listKinds_54 : decode M_BlockMaker_listKinds.2.1 54 = .ok (.iload_n 2, 1) := by decide +kernel
theorem d_BlockMaker_listKinds_55 : decode M_BlockMaker_listKinds.2.1 55 = .ok (.iaload, 1) := by decide +kernel
theorem d_BlockMaker_listKinds_56 : decode M_BlockMaker_listKinds.2.1 56 = .ok (.iconst 1, 1) := by decide +kernel
theorem d_BlockMaker_listKinds_57 : decode M_BlockMaker_listKinds.2.1 57 = .ok (.if_icmp .ne 8, 3) := by decide +kernel
theorem d_BlockMaker_listKinds_60 : decode M_BlockMaker_listKinds.2.1 60 = .ok (.aload_n 1, 1) := by decide +kernel
theorem d_BlockMaker_listKinds_61 : decode M_BlockMaker_listKinds.2.1 61 = .ok (.iload_n 2, 1) := by decide +kernel
theorem d_BlockMaker_listKinds_62 : decode M_BlockMaker_listKinds.2.1 62 = .ok (.invokevirtual 104, 3) := by decide +kernel
theorem d_BlockMaker_listKinds_65 : decode M_BlockMaker_listKinds.2.1 65 = .ok (.iinc 2 1, 3) := by decide +kernel
theorem d_BlockMaker_listKinds_68 : decode M_BlockMaker_listKinds.2.1 68 = .ok (.goto (-25), 3) := by decide +kernel
theorem d_BlockMaker_listKinds_71 : decode M_BlockMaker_listKinds.2.1 71 = .ok (.return_, 1) := by decide +kernel
theorem d_BlockMaker_findSymbols_0 : decode M_BlockMaker_findSymbols.2.1 0 = .ok (.aload_n 0, 1) := by decide +kernel
theorem d_BlockMaker_findSymbols_1 : decode M_BlockMaker_findSymbols.2.1 1 = .ok (.getfield 21, 3) := by decide +kernel
theorem d_BlockMaker_findSymbols_4 : decode M_BlockMaker_findSymbols.2.1 4 = .ok (.aload_n 1, 1) := by decide +kernel
theorem d_BlockMaker_findSymbols_5 : decode M_BlockMaker_findSymbols.2.1 5 = .ok (.getfield 107, 3) := by decide +kernel
theorem d_BlockMaker_findSymbols_8 : decode M_BlockMaker_findSymbols.2.1 8 = .ok (.aload_n 1, 1) := by decide +kernel
theorem d_BlockMaker_findSymbols_9 : decode M_BlockMaker_findSymbols.2.1 9 = .ok (.getfield 101, 3) := by decide +kernel
theorem d_BlockMaker_findSymbols_12 : decode M_BlockMaker_findSymbols.2.1 12 = .ok (.invokevirtual 110, 3) := by decide +kernel
theorem d_BlockMaker_findSymbols_15 : decode M_BlockMaker_findSymbols.2.1 15 = .ok (.aload_n 1, 1) := by decide +kernel
theorem d_BlockMaker_findSymbols_16 : decode M_BlockMaker_findSymbols.2.1 16 = .ok (.iconst 0, 1) := by decide +kernel
theorem d_BlockMaker_findSymbols_17 : decode M_BlockMaker_findSymbols.2.1 17 = .ok (.putfield 113, 3) := by decide +kernel
theorem d_BlockMaker_findSymbols_20 : decode M_BlockMaker_findSymbols.2.1 20 = .ok (.iconst 0, 1) := by decide +kernel
theorem d_BlockMaker_findSymbols_21 : decode M_BlockMaker_findSymbols.2.1 21 = .ok (.istore_n 2, 1) := by decide +kernel
theorem d_BlockMaker_findSymbols_22 : decode M_BlockMaker_findSymbols.2.1 22 = .ok (.iconst 0, 1) := by decide +kernel
theorem d_BlockMaker_findSymbols_23 : decode M_BlockMaker_findSymbols.2.1 23 = .ok (.istore_n 3, 1) := by decide +kernel
theorem d_BlockMaker_findSymbols_24 : decode M_BlockMaker_findSymbols.2.1 24 = .ok (.iload_n 3, 1) := by decide +kernel
theorem d_BlockMaker_findSymbols_25 : decode M_BlockMaker_findSymbols.2.1 25 = .ok (.aload_n 1, 1) := by decide +kernel
theorem d_BlockMaker_findSymbols_26 : decode M_BlockMaker_findSymbols.2.1 26 = .ok (.getfield 62, 3) := by decide +kernel
theorem d_BlockMaker_findSymbols_29 : decode M_BlockMaker_findSymbols.2.1 29 = .ok (.if_icmp .ge 50, 3) := by decide +kernel
theorem d_BlockMaker_findSymbols_32 : decode M_BlockMaker_findSymbols.2.1 32 = .ok (.aload_n 0, 1) := by decide +kernel
theorem d_BlockMaker_findSymbols_33 : decode M_BlockMaker_findSymbols.2.1 33 = .ok (.getfield 21, 3) := by decide +kernel
theorem d_BlockMaker_findSymbols_36 : decode M_BlockMaker_findSymbols.2.1 36 = .ok (.aload_n 1, 1) := by decide +kernel
theorem d_BlockMaker_findSymbols_37 : decode M_BlockMaker_findSymbols.2.1 37 = .ok (.getfield 92, 3) := by decide +kernel
theorem d_BlockMaker_findSymbols_40 : decode M_BlockMaker_findSymbols.2.1 40 = .ok (.iload_n 3, 1) := by decide +kernel
theorem d_BlockMaker_findSymbols_41 : decode M_BlockMaker_findSymbols.2.1 41 = .ok (.iaload, 1) := by decide +kernel
theorem d_BlockMaker_findSymbols_42 : decode M_BlockMaker_findSymbols.2.1 42 = .ok (.invokevirtual 116, 3) := by decide +kernel
theorem d_BlockMaker_findSymbols_45 : decode M_BlockMaker_findSymbols.2.1 45 = .ok (.istore 4, 2) := by decide +kernel
theorem d_BlockMaker_findSymbols_47 : decode M_BlockMaker_findSymbols.2.1 47 = .ok (.iload 4, 2) := by decide +kernel
theorem d_BlockMaker_findSymbols_49 : decode M_BlockMaker_findSymbols.2.1 49 = .ok (.ifCond .ne 9, 3) := by decide +kernel
theorem d_BlockMaker_findSymbols_52 : decode M_BlockMaker_findSymbols.2.1 52 = .ok (.iinc 2 1, 3) := by decide +kernel
theorem d_BlockMaker_findSymbols_55 : decode M_BlockMaker_findSymbols.2.1 55 = .ok (.goto 18, 3) := by decide +kernel
theorem d_BlockMaker_findSymbols_58 : decode M_BlockMaker_findSymbols.2.1 58 = .ok (.aload_n 1, 1) := by decide +kernel
theorem d_BlockMaker_findSymbols_59 : decode M_BlockMaker_findSymbols.2.1 59 = .ok (.iload_n 2, 1) := by decide +kernel
theorem d_BlockMaker_findSymbols_60 : decode M_BlockMaker_findSymbols.2.1 60 = .ok (.invokestatic 119, 3) := by decide +kernel
theorem d_BlockMaker_findSymbols_63 : decode M_BlockMaker_findSymbols.2.1 63 = .ok (.iconst 0, 1) := by decide +kernel
theorem d_BlockMaker_findSymbols_64 : decode M_BlockMaker_findSymbols.2.1 64 = .ok (.istore_n 2, 1) := by decide +kernel
theorem d_BlockMaker_findSymbols_65 : decode M_BlockMaker_findSymbols.2.1 65 = .ok (.aload_n 1, 1) := by decide +kernel
theorem d_BlockMaker_findSymbols_66 : decode M_BlockMaker_findSymbols.2.1 66 = .ok (.iload 4, 2) := by decide +kernel
theorem d_BlockMaker_findSymbols_68 : decode M_BlockMaker_findSymbols.2.1 68 = .ok (.iconst 1, 1) := by decide +kernel
theorem d_BlockMaker_findSymbols_69 : decode M_BlockMaker_findSymbols.2.1 69 = .ok (.iadd, 1) := by decide +kernel
theorem d_BlockMaker_findSymbols_70 : decode M_BlockMaker_findSymbols.2.1 70 = .ok (.invokevirtual 123, 3) := by decide +kernel
theorem d_BlockMaker_findSymbols_73 : decode M_BlockMaker_findSymbols.2.1 73 = .ok (.iinc 3 1, 3) := by decide +kernel
theorem d_BlockMaker_findSymbols_76 : decode M_BlockMaker_findSymbols.2.1 76 = .ok (.goto (-52), 3) := by decide +kernel
theorem d_BlockMaker_findSymbols_79 : decode M_BlockMaker_findSymbols.2.1 79 = .ok (.aload_n 1, 1) := by decide +kernel
theorem d_BlockMaker_findSymbols_80 : decode M_BlockMaker_findSymbols.2.1 80 = .ok (.iload_n 2, 1) := by decide +kernel
theorem d_BlockMaker_findSymbols_81 : decode M_BlockMaker_findSymbols.2.1 81 = .ok (.invokestatic 119, 3) := by decide +kernel
theorem d_BlockMaker_findSymbols_84 : decode M_BlockMaker_findSymbols.2.1 84 = .ok (.aload_n 1, 1) := by decide +kernel
theorem d_BlockMaker_findSymbols_85 : decode M_BlockMaker_findSymbols.2.1 85 = .ok (.aload_n 1, 1) := by decide +kernel
theorem d_BlockMaker_findSymbols_86 : decode M_BlockMaker_findSymbols.2.1 86 = .ok (.invokevirtual 126, 3) := by decide +kernel
theorem d_BlockMaker_findSymbols_89 : decode M_BlockMaker_findSymbols.2.1 89 = .ok (.invokevirtual 123, 3) := by decide +kernel
theorem d_BlockMaker_findSymbols_92 : decode M_BlockMaker_findSymbols.2.1 92 = .ok (.return_, 1) := by decide +kernel
theorem d_BlockMaker_addRun_0 : decode M_BlockMaker_addRun.2.1 0 = .ok (.iload_n 1, 1) := by decide +kernel
theorem d_BlockMaker_addRun_1 : decode M_BlockMaker_addRun.2.1 1 = .ok (.istore_n 2, 1) := by decide +kernel
theorem d_BlockMaker_addRun_2 : decode M_BlockMaker_addRun.2.1 2 = .ok (.iload_n 2, 1) := by decide +kernel
theorem d_BlockMaker_addRun_3 : decode M_BlockMaker_addRun.2.1 3 = .ok (.ifCond .le 28, 3) := by decide +kernel
theorem d_BlockMaker_addRun_6 : decode M_BlockMaker_addRun.2.1 6 = .ok (.aload_n 0, 1) := by decide +kernel
theorem d_BlockMaker_addRun_7 : decode M_BlockMaker_addRun.2.1 7 = .ok (.iload_n 2, 1) := by decide +kernel
theorem d_BlockMaker_addRun_8 : decode M_BlockMaker_addRun.2.1 8 = .ok (.iconst 2, 1) := by decide +kernel
theorem d_BlockMaker_addRun_9 : decode M_BlockMaker_addRun.2.1 9 = .ok (.irem, 1) := by decide +kernel
theorem d_BlockMaker_addRun_10 : decode M_BlockMaker_addRun.2.1 10 = .ok (.iconst 1, 1) := by decide +kernel
theorem d_BlockMaker_addRun_11 : decode M_BlockMaker_addRun.2.1 11 = .ok (.if_icmp .ne 7, 3) := by decide +kernel
theorem d_BlockMaker_addRun_14 : decode M_BlockMaker_addRun.2.1 14 = .ok (.iconst 0, 1) := by decide +kernel
theorem d_BlockMaker_addRun_15 : decode M_BlockMaker_addRun.2.1 15 = .ok (.goto 4, 3) := by decide +kernel
theorem d_BlockMaker_addRun_18 : decode M_BlockMaker_addRun.2.1 18 = .ok (.iconst 1, 1) := by decide +kernel
theorem d_BlockMaker_addRun_19 : decode M_BlockMaker_addRun.2.1 19 = .ok (.invokevirtual 123, 3) := by decide +kernel
theorem d_BlockMaker_addRun_22 : decode M_BlockMaker_addRun.2.1 22 = .ok (.iload_n 2, 1) := by decide +kernel
theorem d_BlockMaker_addRun_23 : decode M_BlockMaker_addRun.2.1 23 = .ok (.iconst 1, 1) := by decide +kernel
theorem d_BlockMaker_addRun_24 : decode M_BlockMaker_addRun.2.1 24 = .ok (.isub, 1) := by decide +kernel
theorem d_BlockMaker_addRun_25 : decode M_BlockMaker_addRun.2.1 25 = .ok (.iconst 2, 1) := by decide +kernel
theorem d_BlockMaker_addRun_26 : decode M_BlockMaker_addRun.2.1 26 = .ok (.idiv, 1) := by decide +kernel
theorem d_BlockMaker_addRun_27 : decode M_BlockMaker_addRun.2.1 27 = .ok (.istore_n 2, 1) := by decide +kernel
theorem d_BlockMaker_addRun_28 : decode M_BlockMaker_addRun.2.1 28 = .ok (.goto (-26), 3) := by decide +kernel
theorem d_BlockMaker_addRun_31 : decode M_BlockMaker_addRun.2.1 31 = .ok (.return_, 1) := by decide +kernel
theorem d_BlockReader_init_0 : decode M_BlockReader_init.2.1 0 = .ok (.aload_n 0, 1) := by decide +kernel
theorem d_BlockReader_init_1 : decode M_BlockReader_init.2.1 1 = .ok (.invokespecial 3, 3) := by decide +kernel
theorem d_BlockReader_init_4 : decode M_BlockReader_init.2.1 4 = .ok (.aload_n 0, 1) := by decide +kernel
theorem d_BlockReader_init_5 : decode M_BlockReader_init.2.1 5 = .ok (.new 9, 3) := by decide +kernel
theorem d_BlockReader_init_8 : decode M_BlockReader_init.2.1 8 = .ok (.dup, 1) := by decide +kernel
theorem d_BlockReader_init_9 : decode M_BlockReader_init.2.1 9 = .ok (.invokespecial 11, 3) := by decide +kernel
theorem d_BlockReader_init_12 : decode M_BlockReader_init.2.1 12 = .ok (.putfield 12, 3) := by decide +kernel
theorem d_BlockReader_init_15 : decode M_BlockReader_init.2.1 15 = .ok (.aload_n 0, 1) := by decide +kernel
theorem d_BlockReader_init_16 : decode M_BlockReader_init.2.1 16 = .ok (.iconst 4, 1) := by decide +kernel
theorem d_BlockReader_init_17 : decode M_BlockReader_init.2.1 17 = .ok (.anewarray 18, 3) := by decide +kernel
theorem d_BlockReader_init_20 : decode M_BlockReader_init.2.1 20 = .ok (.putfield 20, 3) := by decide +kernel
theorem d_BlockReader_init_23 : decode M_BlockReader_init.2.1 23 = .ok (.aload_n 0, 1) := by decide +kernel
theorem d_BlockReader_init_24 : decode M_BlockReader_init.2.1 24 = .ok (.bipush 64, 2) := by decide +kernel
theorem d_BlockReader_init_26 : decode M_BlockReader_init.2.1 26 = .ok (.newarray .int, 2) := by decide +kernel
theorem d_BlockReader_init_28 : decode M_BlockReader_init.2.1 28 = .ok (.putfield 24, 3) := by decide +kernel
theorem d_BlockReader_init_31 : decode M_BlockReader_init.2.1 31 = .ok (.aload_n 0, 1) := by decide +kernel
theorem d_BlockReader_init_32 : decode M_BlockReader_init.2.1 32 = .ok (.sipush 256, 3) := by decide +kernel
theorem d_BlockReader_init_35 : decode M_BlockReader_init.2.1 35 = .ok (.newarray .int, 2) := by decide +kernel
theorem d_BlockReader_init_37 : decode M_BlockReader_init.2.1 37 = .ok (.putfield 28, 3) := by decide +kernel
theorem d_BlockReader_init_40 : decode M_BlockReader_init.2.1 40 = .ok (.aload_n 0, 1) := by decide +kernel
theorem d_BlockReader_init_41 : decode M_BlockReader_init.2.1 41 = .ok (.iconst 1, 1) := by decide +kernel
theorem d_BlockReader_init_42 : decode M_BlockReader_init.2.1 42 = .ok (.putfield 31, 3) := by decide +kernel
theorem d_BlockReader_init_45 : decode M_BlockReader_init.2.1 45 = .ok (.aload_n 0, 1) := by decide +kernel
theorem d_BlockReader_init_46 : decode M_BlockReader_init.2.1 46 = .ok (.aload_n 1, 1) := by decide +kernel
theorem d_BlockReader_init_47 : decode M_BlockReader_init.2.1 47 = .ok (.putfield 35, 3) := by decide +kernel
theorem d_BlockReader_init_50 : decode M_BlockReader_init.2.1 50 = .ok (.iconst 0, 1) := by decide +kernel
theorem d_BlockReader_init_51 : decode M_BlockReader_init.2.1 51 = .ok (.istore_n 2, 1) := by decide +kernel
theorem d_BlockReader_init_52 : decode M_BlockReader_init.2.1 52 = .ok (.iload_n 2, 1) := by decide +kernel
theorem d_BlockReader_init_53 : decode M_BlockReader_init.2.1 53 = .ok (.iconst 4, 1) := by decide +kernel
theorem d_BlockReader_init_54 : decode M_BlockReader_init.2.1 54 = .ok (.if_icmp .ge 25, 3) := by decide +kernel
theorem d_BlockReader_init_57 : decode M_BlockReader_init.2.1 57 = .ok (.aload_n 0, 1) := by decide +kernel
theorem d_BlockReader_init_58 : decode M_BlockReader_init.2.1 58 = .ok (.getfield 20, 3) := by decide +kernel
theorem d_BlockReader_init_61 : decode M_BlockReader_init.2.1 61 = .ok (.iload_n 2, 1) := by decide +kernel
theorem d_BlockReader_init_62 : decode M_BlockReader_init.2.1 62 = .ok (.new 18, 3) := by decide +kernel
theorem d_BlockReader_init_65 : decode M_BlockReader_init.2.1 65 = .ok (.dup, 1) := by decide +kernel
theorem d_BlockReader_init_66 : decode M_BlockReader_init.2.1 66 = .ok (.sipush 258, 3) := by decide +kernel
theorem d_BlockReader_init_69 : decode M_BlockReader_init.2.1 69 = .ok (.invokespecial 39, 3) := by decide +kernel
theorem d_BlockReader_init_72 : decode M_BlockReader_init.2.1 72 = .ok (.aastore, 1) := by decide +kernel
theorem d_BlockReader_init_73 : decode M_BlockReader_init.2.1 73 = .ok (.iinc 2 1, 3) := by decide +kernel
theorem d_BlockReader_init_76 : decode M_BlockReader_init.2.1 76 = .ok (.goto (-24), 3) := by decide +kernel
theorem d_BlockReader_init_79 : decode M_BlockReader_init.2.1 79 = .ok (.return_, 1) := by decide +kernel
theorem d_BlockReader_readBlock_0 : decode M_BlockReader_readBlock.2.1 0 = .ok (.aload_n 0, 1) := by decide +kernel
theorem d_BlockReader_readBlock_1 : decode M_BlockReader_readBlock.2.1 1 = .ok (.getfield 35, 3) := by decide +kernel
theorem d_BlockReader_readBlock_4 : decode M_BlockReader_readBlock.2.1 4 = .ok (.getfield 42, 3) := by decide +kernel
theorem d_BlockReader_readBlock_7 : decode M_BlockReader_readBlock.2.1 7 = .ok (.istore 4, 2) := by decide +kernel
theorem d_BlockReader_readBlock_9 : decode M_BlockReader_readBlock.2.1 9 = .ok (.aload_n 3, 1) := by decide +kernel
theorem d_BlockReader_readBlock_10 : decode M_BlockReader_readBlock.2.1 10 = .ok (.getfield 47, 3) := by decide +kernel
theorem d_BlockReader_readBlock_13 : decode M_BlockReader_readBlock.2.1 13 = .ok (.istore 5, 2) := by decide +kernel
theorem d_BlockReader_readBlock_15 : decode M_BlockReader_readBlock.2.1 15 = .ok (.aload_n 0, 1) := by decide +kernel
theorem d_BlockReader_readBlock_16 : decode M_BlockReader_readBlock.2.1 16 = .ok (.aload_n 1, 1) := by decide +kernel
theorem d_BlockReader_readBlock_17 : decode M_BlockReader_readBlock.2.1 17 = .ok (.invokevirtual 52, 3) := by decide +kernel
theorem d_BlockReader_readBlock_20 : decode M_BlockReader_readBlock.2.1 20 = .ok (.istore 6, 2) := by decide +kernel
theorem d_BlockReader_readBlock_22 : decode M_BlockReader_readBlock.2.1 22 = .ok (.iload 6, 2) := by decide +kernel
theorem d_BlockReader_readBlock_24 : decode M_BlockReader_readBlock.2.1 24 = .ok (.ifCond .ne 11, 3) := by decide +kernel
theorem d_BlockReader_readBlock_27 : decode M_BlockReader_readBlock.2.1 27 = .ok (.aload_n 0, 1) := by decide +kernel
theorem d_BlockReader_readBlock_28 : decode M_BlockReader_readBlock.2.1 28 = .ok (.aload_n 1, 1) := by decide +kernel
theorem d_BlockReader_readBlock_29 : decode M_BlockReader_readBlock.2.1 29 = .ok (.invokevirtual 56, 3) := by decide +kernel
theorem d_BlockReader_readBlock_32 : decode M_BlockReader_readBlock.2.1 32 = .ok (.goto 5, 3) := by decide +kernel
theorem d_BlockReader_readBlock_35 : decode M_BlockReader_readBlock.2.1 35 = .ok (.iload 6, 2) := by decide +kernel
theorem d_BlockReader_readBlock_37 : decode M_BlockReader_readBlock.2.1 37 = .ok (.istore 6, 2) := by decide +kernel
theorem d_BlockReader_readBlock_39 : decode M_BlockReader_readBlock.2.1 39 = .ok (.iload 6, 2) := by decide +kernel
theorem d_BlockReader_readBlock_41 : decode M_BlockReader_readBlock.2.1 41 = .ok (.ifCond .ne 11, 3) := by decide +kernel
theorem d_BlockReader_readBlock_44 : decode M_BlockReader_readBlock.2.1 44 = .ok (.aload_n 0, 1) := by decide +kernel
theorem d_BlockReader_readBlock_45 : decode M_BlockReader_readBlock.2.1 45 = .ok (.aload_n 1, 1) := by decide +kernel
theorem d_BlockReader_readBlock_46 : decode M_BlockReader_readBlock.2.1 46 = .ok (.invokevirtual 59, 3) := by decide +kernel
theorem d_BlockReader_readBlock_49 : decode M_BlockReader_readBlock.2.1 49 = .ok (.goto 5, 3) := by decide +kernel
theorem d_BlockReader_readBlock_52 : decode M_BlockReader_readBlock.2.1 52 = .ok (.iload 6, 2) := by decide +kernel
theorem d_BlockReader_readBlock_54 : decode M_BlockReader_readBlock.2.1 54 = .ok (.istore 6, 2) := by decide +kernel
theorem d_BlockReader_readBlock_56 : decode M_BlockReader_readBlock.2.1 56 = .ok (.iload 6, 2) := by decide +kernel
theorem d_BlockReader_readBlock_58 : decode M_BlockReader_readBlock.2.1 58 = .ok (.ifCond .ne 11, 3) := by decide +kernel
theorem d_BlockReader_readBlock_61 : decode M_BlockReader_readBlock.2.1 61 = .ok (.aload_n 0, 1) := by decide +kernel
theorem d_BlockReader_readBlock_62 : decode M_BlockReader_readBlock.2.1 62 = .ok (.aload_n 1, 1) := by decide +kernel
theorem d_BlockReader_readBlock_63 : decode M_BlockReader_readBlock.2.1 63 = .ok (.invokevirtual 62, 3) := by decide +kernel
theorem d_BlockReader_readBlock_66 : decode M_BlockReader_readBlock.2.1 66 = .ok (.goto 5, 3) := by decide +kernel
theorem d_BlockReader_readBlock_69 : decode M_BlockReader_readBlock.2.1 69 = .ok (.iload 6, 2) := by decide +kernel
theorem d_BlockReader_readBlock_71 : decode M_BlockReader_readBlock.2.1 71 = .ok (.istore 6, 2) := by decide +kernel
theorem d_BlockReader_readBlock_73 : decode M_BlockReader_readBlock.2.1 73 = .ok (.iload 6, 2) := by decide +kernel
theorem d_BlockReader_readBlock_75 : decode M_BlockReader_readBlock.2.1 75 = .ok (.ifCond .ne 11, 3) := by decide +kernel
theorem d_BlockReader_readBlock_78 : decode M_BlockReader_readBlock.2.1 78 = .ok (.aload_n 0, 1) := by decide +kernel
theorem d_BlockReader_readBlock_79 : decode M_BlockReader_readBlock.2.1 79 = .ok (.aload_n 1, 1) := by decide +kernel
theorem d_BlockReader_readBlock_80 : decode M_BlockReader_readBlock.2.1 80 = .ok (.invokevirtual 65, 3) := by decide +kernel
theorem d_BlockReader_readBlock_83 : decode M_BlockReader_readBlock.2.1 83 = .ok (.goto 5, 3) := by decide +kernel
theorem d_BlockReader_readBlock_86 : decode M_BlockReader_readBlock.2.1 86 = .ok (.iload 6, 2) := by decide +kernel
theorem d_BlockReader_readBlock_88 : decode M_BlockReader_readBlock.2.1 88 = .ok (.istore 6, 2) := by decide +kernel
theorem d_BlockReader_readBlock_90 : decode M_BlockReader_readBlock.2.1 90 = .ok (.iload 6, 2) := by decide +kernel
theorem d_BlockReader_readBlock_92 : decode M_BlockReader_readBlock.2.1 92 = .ok (.ifCond .ne 12, 3) := by decide +kernel
theorem d_BlockReader_readBlock_95 : decode M_BlockReader_readBlock.2.1 95 = .ok (.aload_n 0, 1) := by decide +kernel
theorem d_BlockReader_readBlock_96 : decode M_BlockReader_readBlock.2.1 96 = .ok (.aload_n 1, 1) := by decide +kernel
theorem d_BlockReader_readBlock_97 : decode M_BlockReader_readBlock.2.1 97 = .ok (.iload_n 2, 1) := by decide +kernel
theorem d_BlockReader_readBlock_98 : decode M_BlockReader_readBlock.2.1 98 = .ok (.invokevirtual 68, 3) := by decide +kernel
theorem d_BlockReader_readBlock_101 : decode M_BlockReader_readBlock.2.1 101 = .ok (.goto 5, 3) := by decide +kernel
theorem d_BlockReader_readBlock_104 : decode M_BlockReader_readBlock.2.1 104 = .ok (.iload 6, 2) := by decide +kernel
theorem d_BlockReader_readBlock_106 : decode M_BlockReader_readBlock.2.1 106 = .ok (.istore 6, 2) := by decide +kernel
theorem d_BlockReader_readBlock_108 : decode M_BlockReader_readBlock.2.1 108 = .ok (.iload 6, 2) := by decide +kernel
theorem d_BlockReader_readBlock_110 : decode M_BlockReader_readBlock.2.1 110 = .ok (.ifCond .ne 11, 3) := by decide +kernel
theorem d_BlockReader_readBlock_113 : decode M_BlockReader_readBlock.2.1 113 = .ok (.aload_n 0, 1) := by decide +kernel
theorem d_BlockReader_readBlock_114 : decode M_BlockReader_readBlock.2.1 114 = .ok (.aload_n 1, 1) := by decide +kernel
theorem d_BlockReader_readBlock_115 : decode M_BlockReader_readBlock.2.1 115 = .ok (.invokevirtual 72, 3) := by decide +kernel
theorem d_BlockReader_readBlock_118 : decode M_BlockReader_readBlock.2.1 118 = .ok (.goto 5, 3) := by decide +kernel
theorem d_BlockReader_readBlock_121 : decode M_BlockReader_readBlock.2.1 121 = .ok (.iload 6, 2) := by decide +kernel
theorem d_BlockReader_readBlock_123 : decode M_BlockReader_readBlock.2.1 123 = .ok (.istore 6, 2) := by decide +kernel
theorem d_BlockReader_readBlock_125 : decode M_BlockReader_readBlock.2.1 125 = .ok (.iload 6, 2) := by decide +kernel
theorem d_BlockReader_readBlock_127 : decode M_BlockReader_readBlock.2.1 127 = .ok (.ifCond .ne 11, 3) := by decide +kernel
theorem d_BlockReader_readBlock_130 : decode M_BlockReader_readBlock.2.1 130 = .ok (.aload_n 1, 1) := by decide +kernel
theorem d_BlockReader_readBlock_131 : decode M_BlockReader_readBlock.2.1 131 = .ok (.aload_n 3, 1) := by decide +kernel
theorem d_BlockReader_readBlock_132 : decode M_BlockReader_readBlock.2.1 132 = .ok (.invokestatic 75, 3) := by decide +kernel
theorem d_BlockReader_readBlock_135 : decode M_BlockReader_readBlock.2.1 135 = .ok (.goto 5, 3) := by decide +kernel
theorem d_BlockReader_readBlock_138 : decode M_BlockReader_readBlock.2.1 138 = .ok (.iload 6, 2) := by decide +kernel
theorem d_BlockReader_readBlock_140 : decode M_BlockReader_readBlock.2.1 140 = .ok (.istore 6, 2) := by decide +kernel
theorem d_BlockReader_readBlock_142 : decode M_BlockReader_readBlock.2.1 142 = .ok (.iload 6, 2) := by decide +kernel
theorem d_BlockReader_readBlock_144 : decode M_BlockReader_readBlock.2.1 144 = .ok (.ifCond .ne 33, 3) := by decide +kernel
theorem d_BlockReader_readBlock_147 : decode M_BlockReader_readBlock.2.1 147 = .ok (.aload_n 3, 1) := by decide +kernel
theorem d_BlockReader_readBlock_148 : decode M_BlockReader_readBlock.2.1 148 = .ok (.iload 5, 2) := by decide +kernel
theorem d_BlockReader_readBlock_150 : decode M_BlockReader_readBlock.2.1 150 = .ok (.aload_n 3, 1) := by decide +kernel
theorem d_BlockReader_readBlock_151 : decode M_BlockReader_readBlock.2.1 151 = .ok (.getfield 47, 3) := by decide +kernel
theorem d_BlockReader_readBlock_154 : decode M_BlockReader_readBlock.2.1 154 = .ok (.invokestatic 79, 3) := by decide +kernel
theorem d_BlockReader_readBlock_157 : decode M_BlockReader_readBlock.2.1 157 = .ok (.aload_n 1, 1) := by decide +kernel
theorem d_BlockReader_readBlock_158 : decode M_BlockReader_readBlock.2.1 158 = .ok (.getfield 83, 3) := by decide +kernel
theorem d_BlockReader_readBlock_161 : decode M_BlockReader_readBlock.2.1 161 = .ok (.if_icmp .eq 16, 3) := by decide +kernel
theorem d_BlockReader_readBlock_164 : decode M_BlockReader_readBlock.2.1 164 = .ok (.aload_n 0, 1) := by decide +kernel
theorem d_BlockReader_readBlock_165 : decode M_BlockReader_readBlock.2.1 165 = .ok (.getfield 35, 3) := by decide +kernel
theorem d_BlockReader_readBlock_168 : decode M_BlockReader_readBlock.2.1 168 = .ok (.iload 4, 2) := by decide +kernel
theorem d_BlockReader_readBlock_170 : decode M_BlockReader_readBlock.2.1 170 = .ok (.putfield 88, 3) := by decide +kernel
theorem d_BlockReader_readBlock_173 : decode M_BlockReader_readBlock.2.1 173 = .ok (.bipush (-14), 2) := by decide +kernel
theorem d_BlockReader_readBlock_175 : decode M_BlockReader_readBlock.2.1 175 = .ok (.istore 6, 2) := by decide +kernel
theorem d_BlockReader_readBlock_177 : decode M_BlockReader_readBlock.2.1 177 = .ok (.iload 6, 2) := by decide +kernel
theorem d_BlockReader_readBlock_179 : decode M_BlockReader_readBlock.2.1 179 = .ok (.ifCond .eq 9, 3) := by decide +kernel
theorem d_BlockReader_readBlock_182 : decode M_BlockReader_readBlock.2.1 182 = .ok (.aload_n 3, 1) := by decide +kernel
theorem d_BlockReader_readBlock_183 : decode M_BlockReader_readBlock.2.1 183 = .ok (.iload 5, 2) := by decide +kernel
theorem d_BlockReader_readBlock_185 : decode M_BlockReader_readBlock.2.1 185 = .ok (.invokevirtual 91, 3) := by decide +kernel
theorem d_BlockReader_readBlock_188 : decode M_BlockReader_readBlock.2.1 188 = .ok (.iload 6, 2) := by decide +kernel
theorem d_BlockReader_readBlock_190 : decode M_BlockReader_readBlock.2.1 190 = .ok (.ireturn, 1) := by decide +kernel
theorem d_BlockReader_readNumbers_0 : decode M_BlockReader_readNumbers.2.1 0 = .ok (.aload_n 1, 1) := by decide +kernel
theorem d_BlockReader_readNumbers_1 : decode M_BlockReader_readNumbers.2.1 1 = .ok (.aload_n 0, 1) := by decide +kernel
theorem d_BlockReader_readNumbers_2 : decode M_BlockReader_readNumbers.2.1 2 = .ok (.getfield 35, 3) := by decide +kernel
theorem d_BlockReader_readNumbers_5 : decode M_BlockReader_readNumbers.2.1 5 = .ok (.bipush 16, 2) := by decide +kernel
theorem d_BlockReader_readNumbers_7 : decode M_BlockReader_readNumbers.2.1 7 = .ok (.invokevirtual 94, 3) := by decide +kernel
theorem d_BlockReader_readNumbers_10 : decode M_BlockReader_readNumbers.2.1 10 = .ok (.putfield 83, 3) := by decide +kernel
theorem d_BlockReader_readNumbers_13 : decode M_BlockReader_readNumbers.2.1 13 = .ok (.aload_n 1, 1) := by decide +kernel
theorem d_BlockReader_readNumbers_14 : decode M_BlockReader_readNumbers.2.1 14 = .ok (.getfield 83, 3) := by decide +kernel
theorem d_BlockReader_readNumbers_17 : decode M_BlockReader_readNumbers.2.1 17 = .ok (.ifCond .ge 8, 3) := by decide +kernel
theorem d_BlockReader_readNumbers_20 : decode M_BlockReader_readNumbers.2.1 20 = .ok (.aload_n 1, 1) := by decide +kernel
theorem d_BlockReader_readNumbers_21 : decode M_BlockReader_readNumbers.2.1 21 = .ok (.getfield 83, 3) := by decide +kernel
theorem d_BlockReader_readNumbers_24 : decode M_BlockReader_readNumbers.2.1 24 = .ok (.ireturn, 1) := by decide +kernel
theorem d_BlockReader_readNumbers_25 : decode M_BlockReader_readNumbers.2.1 25 = .ok (.aload_n 1, 1) := by decide +kernel
theorem d_BlockReader_readNumbers_26 : decode M_BlockReader_readNumbers.2.1 26 = .ok (.aload_n 0, 1) := by decide +kernel
theorem d_BlockReader_readNumbers_27 : decode M_BlockReader_readNumbers.2.1 27 = .ok (.getfield 35, 3) := by decide +kernel
theorem d_BlockReader_readNumbers_30 : decode M_BlockReader_readNumbers.2.1 30 = .ok (.bipush 6, 2) := by decide +kernel
theorem d_BlockReader_readNumbers_32 : decode M_BlockReader_readNumbers.2.1 32 = .ok (.invokevirtual 94, 3) := by decide +kernel
theorem d_BlockReader_readNumbers_35 : decode M_BlockReader_readNumbers.2.1 35 = .ok (.putfield 98, 3) := by decide +kernel
theorem d_BlockReader_readNumbers_38 : decode M_BlockReader_readNumbers.2.1 38 = .ok (.aload_n 1, 1) := by decide +kernel
theorem d_BlockReader_readNumbers_39 : decode M_BlockReader_readNumbers.2.1 39 = .ok (.getfield 98, 3) := by decide +kernel
theorem d_BlockReader_readNumbers_42 : decode M_BlockReader_readNumbers.2.1 42 = .ok (.ifCond .ge 10, 3) := by decide +kernel
theorem d_BlockReader_readNumbers_45 : decode M_BlockReader_readNumbers.2.1 45 = .ok (.aload_n 1, 1) := by decide +kernel
theorem d_BlockReader_readNumbers_46 : decode M_BlockReader_readNumbers.2.1 46 = .ok (.getfield 98, 3) := by decide +kernel
theorem d_BlockReader_readNumbers_49 : decode M_BlockReader_readNumbers.2.1 49 = .ok (.goto 4, 3) := by decide +kernel
theorem d_BlockReader_readNumbers_52 : decode M_BlockReader_readNumbers.2.1 52 = .ok (.iconst 0, 1) := by decide +kernel
theorem d_BlockReader_readNumbers_53 : decode M_BlockReader_readNumbers.2.1 53 = .ok (.ireturn, 1) := by decide +kernel
theorem d_BlockReader_readMap_0 : decode M_BlockReader_readMap.2.1 0 = .ok (.aload_n 1, 1) := by decide +kernel
theorem d_BlockReader_readMap_1 : decode M_BlockReader_readMap.2.1 1 = .ok (.iconst 0, 1) := by decide +kernel
theorem d_BlockReader_readMap_2 : decode M_BlockReader_readMap.2.1 2 = .ok (.putfield 101, 3) := by decide +kernel
theorem d_BlockReader_readMap_5 : decode M_BlockReader_readMap.2.1 5 = .ok (.aload_n 0, 1) := by decide +kernel
theorem d_BlockReader_readMap_6 : decode M_BlockReader_readMap.2.1 6 = .ok (.getfield 35, 3) := by decide +kernel
theorem d_BlockReader_readMap_9 : decode M_BlockReader_readMap.2.1 9 = .ok (.bipush 16, 2) := by decide +kernel
theorem d_BlockReader_readMap_11 : decode M_BlockReader_readMap.2.1 11 = .ok (.invokevirtual 94, 3) := by decide +kernel
theorem d_BlockReader_readMap_14 : decode M_BlockReader_readMap.2.1 14 = .ok (.istore_n 2, 1) := by decide +kernel
theorem d_BlockReader_readMap_15 : decode M_BlockReader_readMap.2.1 15 = .ok (.iload_n 2, 1) := by decide +kernel
theorem d_BlockReader_readMap_16 : decode M_BlockReader_readMap.2.1 16 = .ok (.ifCond .ge 5, 3) := by decide +kernel
theorem d_BlockReader_readMap_19 : decode M_BlockReader_readMap.2.1 19 = .ok (.iload_n 2, 1) := by decide +kernel
theorem d_BlockReader_readMap_20 : decode M_BlockReader_readMap.2.1 20 = .ok (.ireturn, 1) := by decide +kernel
theorem d_BlockReader_readMap_21 : decode M_BlockReader_readMap.2.1 21 = .ok (.iconst 0, 1) := by decide +kernel
theorem d_BlockReader_readMap_22 : decode M_BlockReader_readMap.2.1 22 = .ok (.istore_n 3, 1) := by decide +kernel
theorem d_BlockReader_readMap_23 : decode M_BlockReader_readMap.2.1 23 = .ok (.iload_n 3, 1) := by decide +kernel
theorem d_BlockReader_readMap_24 : decode M_BlockReader_readMap.2.1 24 = .ok (.bipush 16, 2) := by decide +kernel
theorem d_BlockReader_readMap_26 : decode M_BlockReader_readMap.2.1 26 = .ok (.if_icmp .ge 47, 3) := by decide +kernel
theorem d_BlockReader_readMap_29 : decode M_BlockReader_readMap.2.1 29 = .ok (.iload_n 2, 1) := by decide +kernel
theorem d_BlockReader_readMap_30 : decode M_BlockReader_readMap.2.1 30 = .ok (.iload_n 3, 1) := by decide +kernel
theorem d_BlockReader_readMap_31 : decode M_BlockReader_readMap.2.1 31 = .ok (.invokestatic 104, 3) := by decide +kernel
theorem d_BlockReader_readMap_34 : decode M_BlockReader_readMap.2.1 34 = .ok (.iand, 1) := by decide +kernel
theorem d_BlockReader_readMap_35 : decode M_BlockReader_readMap.2.1 35 = .ok (.ifCond .eq 32, 3) := by decide +kernel
theorem d_BlockReader_readMap_38 : decode M_BlockReader_readMap.2.1 38 = .ok (.aload_n 0, 1) := by decide +kernel
theorem d_BlockReader_readMap_39 : decode M_BlockReader_readMap.2.1 39 = .ok (.getfield 35, 3) := by decide +kernel
theorem d_BlockReader_readMap_42 : decode M_BlockReader_readMap.2.1 42 = .ok (.bipush 16, 2) := by decide +kernel
theorem d_BlockReader_readMap_44 : decode M_BlockReader_readMap.2.1 44 = .ok (.invokevirtual 94, 3) := by decide +kernel
theorem d_BlockReader_readMap_47 : decode M_BlockReader_readMap.2.1 47 = .ok (.istore 4, 2) := by decide +kernel
theorem d_BlockReader_readMap_49 : decode M_BlockReader_readMap.2.1 49 = .ok (.iload 4, 2) := by decide +kernel
theorem d_BlockReader_readMap_51 : decode M_BlockReader_readMap.2.1 51 = .ok (.ifCond .ge 6, 3) := by decide +kernel
theorem d_BlockReader_readMap_54 : decode M_BlockReader_readMap.2.1 54 = .ok (.iload 4, 2) := by decide +kernel
theorem d_BlockReader_readMap_56 : decode M_BlockReader_readMap.2.1 56 = .ok (.ireturn, 1) := by decide +kernel
theorem d_BlockReader_readMap_57 : decode M_BlockReader_readMap.2.1 57 = .ok (.aload_n 1, 1) := by decide +kernel
theorem d_BlockReader_readMap_58 : decode M_BlockReader_readMap.2.1 58 = .ok (.bipush 16, 2) := by decide +kernel
theorem d_BlockReader_readMap_60 : decode M_BlockReader_readMap.2.1 60 = .ok (.iload_n 3, 1) := by decide +kernel
theorem d_BlockReader_readMap_61 : decode M_BlockReader_readMap.2.1 61 = .ok (.imul, 1) := by decide +kernel
theorem d_BlockReader_readMap_62 : decode M_BlockReader_readMap.2.1 62 = .ok (.iload 4, 2) := by decide +kernel
theorem d_BlockReader_readMap_64 : decode M_BlockReader_readMap.2.1 64 = .ok (.invokestatic 107, 3) := by decide +kernel
theorem d_BlockReader_readMap_67 : decode M_BlockReader_readMap.2.1 67 = .ok (.iinc 3 1, 3) := by decide +kernel
theorem d_BlockReader_readMap_70 : decode M_BlockReader_readMap.2.1 70 = .ok (.goto (-47), 3) := by decide +kernel
theorem d_BlockReader_readMap_73 : decode M_BlockReader_readMap.2.1 73 = .ok (.aload_n 1, 1) := by decide +kernel
theorem d_BlockReader_readMap_74 : decode M_BlockReader_readMap.2.1 74 = .ok (.getfield 101, 3) := by decide +kernel
theorem d_BlockReader_readMap_77 : decode M_BlockReader_readMap.2.1 77 = .ok (.ifCond .ne 8, 3) := by decide +kernel
theorem d_BlockReader_readMap_80 : decode M_BlockReader_readMap.2.1 80 = .ok (.bipush (-5), 2) := by decide +kernel
theorem d_BlockReader_readMap_82 : decode M_BlockReader_readMap.2.1 82 = .ok (.goto 4, 3) := by decide +kernel
theorem d_BlockReader_readMap_85 : decode M_BlockReader_readMap.2.1 85 = .ok (.iconst 0, 1) := by decide +kernel
theorem d_BlockReader_readMap_86 : decode M_BlockReader_readMap.2.1 86 = .ok (.ireturn, 1) := by decide +kernel
theorem d_BlockReader_addKinds_0 : decode M_BlockReader_addKinds.2.1 0 = .ok (.iconst 0, 1) := by decide +kernel
theorem d_BlockReader_addKinds_1 : decode M_BlockReader_addKinds.2.1 1 = .ok (.istore_n 3, 1) := by decide +kernel
theorem d_BlockReader_addKinds_2 : decode M_BlockReader_addKinds.2.1 2 = .ok (.iload_n 3, 1) := by decide +kernel
theorem d_BlockReader_addKinds_3 : decode M_BlockReader_addKinds.2.1 3 = .ok (.bipush 16, 2) := by decide +kernel
theorem d_BlockReader_addKinds_5 : decode M_BlockReader_addKinds.2.1 5 = .ok (.if_icmp .ge 25, 3) := by decide +kernel
theorem d_BlockReader_addKinds_8 : decode M_BlockReader_addKinds.2.1 8 = .ok (.iload_n 2, 1) := by decide +kernel
theorem d_BlockReader_addKinds_9 : decode M_BlockReader_addKinds.2.1 9 = .ok (.iload_n 3, 1) := by decide +kernel
theorem d_BlockReader_addKinds_10 : decode M_BlockReader_addKinds.2.1 10 = .ok (.invokestatic 104, 3) := by decide +kernel
theorem d_BlockReader_addKinds_13 : decode M_BlockReader_addKinds.2.1 13 = .ok (.iand, 1) := by decide +kernel
theorem d_BlockReader_addKinds_14 : decode M_BlockReader_addKinds.2.1 14 = .ok (.ifCond .eq 10, 3) := by decide +kernel
theorem d_BlockReader_addKinds_17 : decode M_BlockReader_addKinds.2.1 17 = .ok (.aload_n 0, 1) := by decide +kernel
theorem d_BlockReader_addKinds_18 : decode M_BlockReader_addKinds.2.1 18 = .ok (.iload_n 1, 1) := by decide +kernel
theorem d_BlockReader_addKinds_19 : decode M_BlockReader_addKinds.2.1 19 = .ok (.iload_n 3, 1) := by decide +kernel
theorem d_BlockReader_addKinds_20 : decode M_BlockReader_addKinds.2.1 20 = .ok (.iadd, 1) := by decide +kernel
theorem d_BlockReader_addKinds_21 : decode M_BlockReader_addKinds.2.1 21 = .ok (.invokevirtual 111, 3) := by decide +kernel
theorem d_BlockReader_addKinds_24 : decode M_BlockReader_addKinds.2.1 24 = .ok (.iinc 3 1, 3) := by decide +kernel
theorem d_BlockReader_addKinds_27 : decode M_BlockReader_addKinds.2.1 27 = .ok (.goto (-25), 3) := by decide +kernel
theorem d_BlockReader_addKinds_30 : decode M_BlockReader_addKinds.2.1 30 = .ok (.return_, 1) := by decide +kernel
theorem d_BlockReader_readCounts_0 : decode M_BlockReader_readCounts.2.1 0 = .ok (.aload_n 1, 1) := by decide +kernel
theorem d_BlockReader_readCounts_1 : decode M_BlockReader_readCounts.2.1 1 = .ok (.aload_n 0, 1) := by decide +kernel
theorem d_BlockReader_readCounts_2 : decode M_BlockReader_readCounts.2.1 2 = .ok (.getfield 35, 3) := by decide +kernel
theorem d_BlockReader_readCounts_5 : decode M_BlockReader_readCounts.2.1 5 = .ok (.iconst 3, 1) := by decide +kernel
theorem d_BlockReader_readCounts_6 : decode M_BlockReader_readCounts.2.1 6 = .ok (.invokevirtual 94, 3) := by decide +kernel
theorem d_BlockReader_readCounts_9 : decode M_BlockReader_readCounts.2.1 9 = .ok (.putfield 114, 3) := by decide +kernel
theorem d_BlockReader_readCounts_12 : decode M_BlockReader_readCounts.2.1 12 = .ok (.aload_n 1, 1) := by decide +kernel
theorem d_BlockReader_readCounts_13 : decode M_BlockReader_readCounts.2.1 13 = .ok (.getfield 114, 3) := by decide +kernel
theorem d_BlockReader_readCounts_16 : decode M_BlockReader_readCounts.2.1 16 = .ok (.ifCond .ge 8, 3) := by decide +kernel
theorem d_BlockReader_readCounts_19 : decode M_BlockReader_readCounts.2.1 19 = .ok (.aload_n 1, 1) := by decide +kernel
theorem d_BlockReader_readCounts_20 : decode M_BlockReader_readCounts.2.1 20 = .ok (.getfield 114, 3) := by decide +kernel
theorem d_BlockReader_readCounts_23 : decode M_BlockReader_readCounts.2.1 23 = .ok (.ireturn, 1) := by decide +kernel
theorem d_BlockReader_readCounts_24 : decode M_BlockReader_readCounts.2.1 24 = .ok (.aload_n 1, 1) := by decide +kernel
theorem d_BlockReader_readCounts_25 : decode M_BlockReader_readCounts.2.1 25 = .ok (.getfield 114, 3) := by decide +kernel
theorem d_BlockReader_readCounts_28 : decode M_BlockReader_readCounts.2.1 28 = .ok (.iconst 1, 1) := by decide +kernel
theorem d_BlockReader_readCounts_29 : decode M_BlockReader_readCounts.2.1 29 = .ok (.if_icmp .lt 11, 3) := by decide +kernel
theorem d_BlockReader_readCounts_32 : decode M_BlockReader_readCounts.2.1 32 = .ok (.aload_n 1, 1) := by decide +kernel
theorem d_BlockReader_readCounts_33 : decode M_BlockReader_readCounts.2.1 33 = .ok (.getfield 114, 3) := by decide +kernel
theorem d_BlockReader_readCounts_36 : decode M_BlockReader_readCounts.2.1 36 = .ok (.iconst 4, 1) := by decide +kernel
theorem d_BlockReader_readCounts_37 : decode M_BlockReader_readCounts.2.1 37 = .ok (.if_icmp .le 6, 3) := by decide +kernel
theorem d_BlockReader_readCounts_40 : decode M_BlockReader_readCounts.2.1 40 = .ok (.bipush (-6), 2) := by decide +kernel
theorem d_BlockReader_readCounts_42 : decode M_BlockReader_readCounts.2.1 42 = .ok (.ireturn, 1) := by decide +kernel
theorem d_BlockReader_readCounts_43 : decode M_BlockReader_readCounts.2.1 43 = .ok (.aload_n 1, 1) := by decide +kernel
theorem d_BlockReader_readCounts_44 : decode M_BlockReader_readCounts.2.1 44 = .ok (.aload_n 0, 1) := by decide +kernel
theorem d_BlockReader_readCounts_45 : decode M_BlockReader_readCounts.2.1 45 = .ok (.getfield 35, 3) := by decide +kernel
theorem d_BlockReader_readCounts_48 : decode M_BlockReader_readCounts.2.1 48 = .ok (.bipush 6, 2) := by decide +kernel
theorem d_BlockReader_readCounts_50 : decode M_BlockReader_readCounts.2.1 50 = .ok (.invokevirtual 94, 3) := by decide +kernel
theorem d_BlockReader_readCounts_53 : decode M_BlockReader_readCounts.2.1 53 = .ok (.putfield 117, 3) := by decide +kernel
theorem d_BlockReader_readCounts_56 : decode M_BlockReader_readCounts.2.1 56 = .ok (.aload_n 1, 1) := by decide +kernel
theorem d_BlockReader_readCounts_57 : decode M_BlockReader_readCounts.2.1 57 = .ok (.getfield 117, 3) := by decide +kernel
theorem d_BlockReader_readCounts_60 : decode M_BlockReader_readCounts.2.1 60 = .ok (.ifCond .ge 8, 3) := by decide +kernel
theorem d_BlockReader_readCounts_63 : decode M_BlockReader_readCounts.2.1 63 = .ok (.aload_n 1, 1) := by decide +kernel
theorem d_BlockReader_readCounts_64 : decode M_BlockReader_readCounts.2.1 64 = .ok (.getfield 117, 3) := by decide +kernel
theorem d_BlockReader_readCounts_67 : decode M_BlockReader_readCounts.2.1 67 = .ok (.ireturn, 1) := by decide +kernel
theorem d_BlockReader_readCounts_68 : decode M_BlockReader_readCounts.2.1 68 = .ok (.aload_n 1, 1) := by decide +kernel
theorem d_BlockReader_readCounts_69 : decode M_BlockReader_readCounts.2.1 69 = .ok (.getfield 117, 3) := by decide +kernel
theorem d_BlockReader_readCounts_72 : decode M_BlockReader_readCounts.2.1 72 = .ok (.ifCond .ne 8, 3) := by decide +kernel
theorem d_BlockReader_readCounts_75 : decode M_BlockReader_readCounts.2.1 75 = .ok (.bipush (-7), 2) := by decide +kernel
theorem d_BlockReader_readCounts_77 : decode M_BlockReader_readCounts.2.1 77 = .ok (.goto 4, 3) := by decide +kernel
theorem d_BlockReader_readCounts_80 : decode M_BlockReader_readCounts.2.1 80 = .ok (.iconst 0, 1) := by decide +kernel
theorem d_BlockReader_readCounts_81 : decode M_BlockReader_readCounts.2.1 81 = .ok (.ireturn, 1) := by decide +kernel
theorem d_BlockReader_readPicks_0 : decode M_BlockReader_readPicks.2.1 0 = .ok (.aload_n 0, 1) := by decide +kernel
theorem d_BlockReader_readPicks_1 : decode M_BlockReader_readPicks.2.1 1 = .ok (.getfield 12, 3) := by decide +kernel
theorem d_BlockReader_readPicks_4 : decode M_BlockReader_readPicks.2.1 4 = .ok (.aload_n 1, 1) := by decide +kernel
theorem d_BlockReader_readPicks_5 : decode M_BlockReader_readPicks.2.1 5 = .ok (.getfield 114, 3) := by decide +kernel
theorem d_BlockReader_readPicks_8 : decode M_BlockReader_readPicks.2.1 8 = .ok (.invokevirtual 120, 3) := by decide +kernel
theorem d_BlockReader_readPicks_11 : decode M_BlockReader_readPicks.2.1 11 = .ok (.iconst 0, 1) := by decide +kernel
theorem d_BlockReader_readPicks_12 : decode M_BlockReader_readPicks.2.1 12 = .ok (.istore_n 2, 1) := by decide +kernel
theorem d_BlockReader_readPicks_13 : decode M_BlockReader_readPicks.2.1 13 = .ok (.iload_n 2, 1) := by decide +kernel
theorem d_BlockReader_readPicks_14 : decode M_BlockReader_readPicks.2.1 14 = .ok (.aload_n 1, 1) := by decide +kernel
theorem d_BlockReader_readPicks_15 : decode M_BlockReader_readPicks.2.1 15 = .ok (.getfield 117, 3) := by decide +kernel
theorem d_BlockReader_readPicks_18 : decode M_BlockReader_readPicks.2.1 18 = .ok (.if_icmp .ge 38, 3) := by decide +kernel
theorem d_BlockReader_readPicks_21 : decode M_BlockReader_readPicks.2.1 21 = .ok (.aload_n 0, 1) := by decide +kernel
theorem d_BlockReader_readPicks_22 : decode M_BlockReader_readPicks.2.1 22 = .ok (.aload_n 1, 1) := by decide +kernel
theorem d_BlockReader_readPicks_23 : decode M_BlockReader_readPicks.2.1 23 = .ok (.getfield 114, 3) := by decide +kernel
theorem d_BlockReader_readPicks_26 : decode M_BlockReader_readPicks.2.1 26 = .ok (.invokevirtual 123, 3) := by decide +kernel
theorem d_BlockReader_readPicks_29 : decode M_BlockReader_readPicks.2.1 29 = .ok (.istore_n 3, 1) := by decide +kernel
theorem d_BlockReader_readPicks_30 : decode M_BlockReader_readPicks.2.1 30 = .ok (.iload_n 3, 1) := by decide +kernel
theorem d_BlockReader_readPicks_31 : decode M_BlockReader_readPicks.2.1 31 = .ok (.ifCond .ge 5, 3) := by decide +kernel
theorem d_BlockReader_readPicks_34 : decode M_BlockReader_readPicks.2.1 34 = .ok (.iload_n 3, 1) := by decide +kernel
theorem d_BlockReader_readPicks_35 : decode M_BlockReader_readPicks.2.1 35 = .ok (.ireturn, 1) := by decide +kernel
theorem d_BlockReader_readPicks_36 : decode M_BlockReader_readPicks.2.1 36 = .ok (.aload_n 1, 1) := by decide +kernel
theorem d_BlockReader_readPicks_37 : decode M_BlockReader_readPicks.2.1 37 = .ok (.getfield 126, 3) := by decide +kernel
theorem d_BlockReader_readPicks_40 : decode M_BlockReader_readPicks.2.1 40 = .ok (.iload_n 2, 1) := by decide +kernel
theorem d_BlockReader_readPicks_41 : decode M_BlockReader_readPicks.2.1 41 = .ok (.aload_n 0, 1) := by decide +kernel
theorem d_BlockReader_readPicks_42 : decode M_BlockReader_readPicks.2.1 42 = .ok (.getfield 12, 3) := by decide +kernel
theorem d_BlockReader_readPicks_45 : decode M_BlockReader_readPicks.2.1 45 = .ok (.iload_n 3, 1) := by decide +kernel
theorem d_BlockReader_readPicks_46 : decode M_BlockReader_readPicks.2.1 46 = .ok (.invokevirtual 129, 3) := by decide +kernel
theorem d_BlockReader_readPicks_49 : decode M_BlockReader_readPicks.2.1 49 = .ok (.iastore, 1) := by decide +kernel
theorem d_BlockReader_readPicks_50 : decode M_BlockReader_readPicks.2.1 50 = .ok (.iinc 2 1, 3) := by decide +kernel
theorem d_BlockReader_readPicks_53 : decode M_BlockReader_readPicks.2.1 53 = .ok (.goto (-40), 3) := by decide +kernel
theorem d_BlockReader_readPicks_56 : decode M_BlockReader_readPicks.2.1 56 = .ok (.iconst 0, 1) := by decide +kernel
theorem d_BlockReader_readPicks_57 : decode M_BlockReader_readPicks.2.1 57 = .ok (.ireturn, 1) := by decide +kernel
theorem d_BlockReader_readPick_0 : decode M_BlockReader_readPick.2.1 0 = .ok (.aload_n 0, 1) := by decide +kernel
theorem d_BlockReader_readPick_1 : decode M_BlockReader_readPick.2.1 1 = .ok (.getfield 35, 3) := by decide +kernel
theorem d_BlockReader_readPick_4 : decode M_BlockReader_readPick.2.1 4 = .ok (.invokevirtual 132, 3) := by decide +kernel
theorem d_BlockReader_readPick_7 : decode M_BlockReader_readPick.2.1 7 = .ok (.iconst 0, 1) := by decide +kernel
theorem d_BlockReader_readPick_8 : decode M_BlockReader_readPick.2.1 8 = .ok (.istore_n 2, 1) := by decide +kernel
theorem d_BlockReader_readPick_9 : decode M_BlockReader_readPick.2.1 9 = .ok (.iload_n 2, 1) := by decide +kernel
theorem d_BlockReader_readPick_10 : decode M_BlockReader_readPick.2.1 10 = .ok (.iload_n 1, 1) := by decide +kernel
theorem d_BlockReader_readPick_11 : decode M_BlockReader_readPick.2.1 11 = .ok (.if_icmp .ge 31, 3) := by decide +kernel
theorem d_BlockReader_readPick_14 : decode M_BlockReader_readPick.2.1 14 = .ok (.aload_n 0, 1) := by decide +kernel
theorem d_BlockReader_readPick_15 : decode M_BlockReader_readPick.2.1 15 = .ok (.getfield 35, 3) := by decide +kernel
theorem d_BlockReader_readPick_18 : decode M_BlockReader_readPick.2.1 18 = .ok (.invokevirtual 135, 3) := by decide +kernel
theorem d_BlockReader_readPick_21 : decode M_BlockReader_readPick.2.1 21 = .ok (.istore_n 3, 1) := by decide +kernel
theorem d_BlockReader_readPick_22 : decode M_BlockReader_readPick.2.1 22 = .ok (.iload_n 3, 1) := by decide +kernel
theorem d_BlockReader_readPick_23 : decode M_BlockReader_readPick.2.1 23 = .ok (.ifCond .gt 13, 3) := by decide +kernel
theorem d_BlockReader_readPick_26 : decode M_BlockReader_readPick.2.1 26 = .ok (.iload_n 3, 1) := by decide +kernel
theorem d_BlockReader_readPick_27 : decode M_BlockReader_readPick.2.1 27 = .ok (.ifCond .ge 7, 3) := by decide +kernel
theorem d_BlockReader_readPick_30 : decode M_BlockReader_readPick.2.1 30 = .ok (.iload_n 3, 1) := by decide +kernel
theorem d_BlockReader_readPick_31 : decode M_BlockReader_readPick.2.1 31 = .ok (.goto 4, 3) := by decide +kernel
theorem d_BlockReader_readPick_34 : decode M_BlockReader_readPick.2.1 34 = .ok (.iload_n 2, 1) := by decide +kernel
theorem d_BlockReader_readPick_35 : decode M_BlockReader_readPick.2.1 35 = .ok (.ireturn, 1) := by decide +kernel
theorem d_BlockReader_readPick_36 : decode M_BlockReader_readPick.2.1 36 = .ok (.iinc 2 1, 3) := by decide +kernel
theorem d_BlockReader_readPick_39 : decode M_BlockReader_readPick.2.1 39 = .ok (.goto (-30), 3) := by decide +kernel
theorem d_BlockReader_readPick_42 : decode M_BlockReader_readPick.2.1 42 = .ok (.bipush (-8), 2) := by decide +kernel
theorem d_BlockReader_readPick_44 : decode M_BlockReader_readPick.2.1 44 = .ok (.ireturn, 1) := by decide +kernel
theorem d_BlockReader_readTables_0 : decode M_BlockReader_readTables.2.1 0 = .ok (.iconst 0, 1) := by decide +kernel
theorem d_BlockReader_readTables_1 : decode M_BlockReader_readTables.2.1 1 = .ok (.istore_n 2, 1) := by decide +kernel
theorem d_BlockReader_readTables_2 : decode M_BlockReader_readTables.2.1 2 = .ok (.iload_n 2, 1) := by decide +kernel
theorem d_BlockReader_readTables_3 : decode M_BlockReader_readTables.2.1 3 = .ok (.aload_n 1, 1) := by decide +kernel
theorem d_BlockReader_readTables_4 : decode M_BlockReader_readTables.2.1 4 = .ok (.getfield 114, 3) := by decide +kernel
theorem d_BlockReader_readTables_7 : decode M_BlockReader_readTables.2.1 7 = .ok (.if_icmp .ge 49, 3) := by decide +kernel
theorem d_BlockReader_readTables_10 : decode M_BlockReader_readTables.2.1 10 = .ok (.aload_n 0, 1) := by decide +kernel
theorem d_BlockReader_readTables_11 : decode M_BlockReader_readTables.2.1 11 = .ok (.aload_n 1, 1) := by decide +kernel
theorem d_BlockReader_readTables_12 : decode M_BlockReader_readTables.2.1 12 = .ok (.getfield 139, 3) := by decide +kernel
theorem d_BlockReader_readTables_15 : decode M_BlockReader_readTables.2.1 15 = .ok (.iload_n 2, 1) := by decide +kernel
theorem d_BlockReader_readTables_16 : decode M_BlockReader_readTables.2.1 16 = .ok (.aaload, 1) := by decide +kernel
theorem d_BlockReader_readTables_17 : decode M_BlockReader_readTables.2.1 17 = .ok (.aload_n 1, 1) := by decide +kernel
theorem d_BlockReader_readTables_18 : decode M_BlockReader_readTables.2.1 18 = .ok (.invokevirtual 143, 3) := by decide +kernel
theorem d_BlockReader_readTables_21 : decode M_BlockReader_readTables.2.1 21 = .ok (.invokevirtual 146, 3) := by decide +kernel
theorem d_BlockReader_readTables_24 : decode M_BlockReader_readTables.2.1 24 = .ok (.istore_n 3, 1) := by decide +kernel
theorem d_BlockReader_readTables_25 : decode M_BlockReader_readTables.2.1 25 = .ok (.iload_n 3, 1) := by decide +kernel
theorem d_BlockReader_readTables_26 : decode M_BlockReader_readTables.2.1 26 = .ok (.ifCond .eq 5, 3) := by decide +kernel
theorem d_BlockReader_readTables_29 : decode M_BlockReader_readTables.2.1 29 = .ok (.iload_n 3, 1) := by decide +kernel
theorem d_BlockReader_readTables_30 : decode M_BlockReader_readTables.2.1 30 = .ok (.ireturn, 1) := by decide +kernel
theorem d_BlockReader_readTables_31 : decode M_BlockReader_readTables.2.1 31 = .ok (.aload_n 0, 1) := by decide +kernel
theorem d_BlockReader_readTables_32 : decode M_BlockReader_readTables.2.1 32 = .ok (.getfield 20, 3) := by decide +kernel
theorem d_BlockReader_readTables_35 : decode M_BlockReader_readTables.2.1 35 = .ok (.iload_n 2, 1) := by decide +kernel
theorem d_BlockReader_readTables_36 : decode M_BlockReader_readTables.2.1 36 = .ok (.aaload, 1) := by decide +kernel
theorem d_BlockReader_readTables_37 : decode M_BlockReader_readTables.2.1 37 = .ok (.aload_n 1, 1) := by decide +kernel
theorem d_BlockReader_readTables_38 : decode M_BlockReader_readTables.2.1 38 = .ok (.getfield 139, 3) := by decide +kernel
theorem d_BlockReader_readTables_41 : decode M_BlockReader_readTables.2.1 41 = .ok (.iload_n 2, 1) := by decide +kernel
theorem d_BlockReader_readTables_42 : decode M_BlockReader_readTables.2.1 42 = .ok (.aaload, 1) := by decide +kernel
theorem d_BlockReader_readTables_43 : decode M_BlockReader_readTables.2.1 43 = .ok (.aload_n 1, 1) := by decide +kernel
theorem d_BlockReader_readTables_44 : decode M_BlockReader_readTables.2.1 44 = .ok (.invokevirtual 143, 3) := by decide +kernel
theorem d_BlockReader_readTables_47 : decode M_BlockReader_readTables.2.1 47 = .ok (.invokevirtual 150, 3) := by decide +kernel
theorem d_BlockReader_readTables_50 : decode M_BlockReader_readTables.2.1 50 = .ok (.iinc 2 1, 3) := by decide +kernel
theorem d_BlockReader_readTables_53 : decode M_BlockReader_readTables.2.1 53 = .ok (.goto (-51), 3) := by decide +kernel
theorem d_BlockReader_readTables_56 : decode M_BlockReader_readTables.2.1 56 = .ok (.iconst 0, 1) := by decide +kernel
theorem d_BlockReader_readTables_57 : decode M_BlockReader_readTables.2.1 57 = .ok (.ireturn, 1) := by decide +kernel
theorem d_BlockReader_readLengths_0 : decode M_BlockReader_readLengths.2.1 0 = .ok (.aload_n 0, 1) := by decide +kernel
theorem d_BlockReader_readLengths_1 : decode M_BlockReader_readLengths.2.1 1 = .ok (.getfield 35, 3) := by decide +kernel
theorem d_BlockReader_readLengths_4 : decode M_BlockReader_readLengths.2.1 4 = .ok (.iconst 5, 1) := by decide +kernel
theorem d_BlockReader_readLengths_5 : decode M_BlockReader_readLengths.2.1 5 = .ok (.invokevirtual 94, 3) := by decide +kernel
theorem d_BlockReader_readLengths_8 : decode M_BlockReader_readLengths.2.1 8 = .ok (.istore_n 3, 1) := by decide +kernel
theorem d_BlockReader_readLengths_9 : decode M_BlockReader_readLengths.2.1 9 = .ok (.iload_n 3, 1) := by decide +kernel
theorem d_BlockReader_readLengths_10 : decode M_BlockReader_readLengths.2.1 10 = .ok (.ifCond .lt 13, 3) := by decide +kernel
theorem d_BlockReader_readLengths_13 : decode M_BlockReader_readLengths.2.1 13 = .ok (.iload_n 3, 1) := by decide +kernel
theorem d_BlockReader_readLengths_14 : decode M_BlockReader_readLengths.2.1 14 = .ok (.invokestatic 154, 3) := by decide +kernel
theorem d_BlockReader_readLengths_17 : decode M_BlockReader_readLengths.2.1 17 = .ok (.ifCond .ne 6, 3) := by decide +kernel
theorem d_BlockReader_readLengths_20 : decode M_BlockReader_readLengths.2.1 20 = .ok (.bipush (-9), 2) := by decide +kernel
theorem d_BlockReader_readLengths_22 : decode M_BlockReader_readLengths.2.1 22 = .ok (.ireturn, 1) := by decide +kernel
theorem d_BlockReader_readLengths_23 : decode M_BlockReader_readLengths.2.1 23 = .ok (.iconst 0, 1) := by decide +kernel
theorem d_BlockReader_readLengths_24 : decode M_BlockReader_readLengths.2.1 24 = .ok (.istore 4, 2) := by decide +kernel
theorem d_BlockReader_readLengths_26 : decode M_BlockReader_readLengths.2.1 26 = .ok (.iload 4, 2) := by decide +kernel
theorem d_BlockReader_readLengths_28 : decode M_BlockReader_readLengths.2.1 28 = .ok (.iload_n 2, 1) := by decide +kernel
theorem d_BlockReader_readLengths_29 : decode M_BlockReader_readLengths.2.1 29 = .ok (.if_icmp .ge 24, 3) := by decide +kernel
theorem d_BlockReader_readLengths_32 : decode M_BlockReader_readLengths.2.1 32 = .ok (.iload_n 3, 1) := by decide +kernel
theorem d_BlockReader_readLengths_33 : decode M_BlockReader_readLengths.2.1 33 = .ok (.ifCond .le 20, 3) := by decide +kernel
theorem d_BlockReader_readLengths_36 : decode M_BlockReader_readLengths.2.1 36 = .ok (.aload_n 0, 1) := by decide +kernel
theorem d_BlockReader_readLengths_37 : decode M_BlockReader_readLengths.2.1 37 = .ok (.iload_n 3, 1) := by decide +kernel
theorem d_BlockReader_readLengths_38 : decode M_BlockReader_readLengths.2.1 38 = .ok (.invokevirtual 158, 3) := by decide +kernel
theorem d_BlockReader_readLengths_41 : decode M_BlockReader_readLengths.2.1 41 = .ok (.istore_n 3, 1) := by decide +kernel
theorem d_BlockReader_readLengths_42 : decode M_BlockReader_readLengths.2.1 42 = .ok (.aload_n 1, 1) := by decide +kernel
theorem d_BlockReader_readLengths_43 : decode M_BlockReader_readLengths.2.1 43 = .ok (.iload 4, 2) := by decide +kernel
theorem d_BlockReader_readLengths_45 : decode M_BlockReader_readLengths.2.1 45 = .ok (.iload_n 3, 1) := by decide +kernel
theorem d_BlockReader_readLengths_46 : decode M_BlockReader_readLengths.2.1 46 = .ok (.iastore, 1) := by decide +kernel
theorem d_BlockReader_readLengths_47 : decode M_BlockReader_readLengths.2.1 47 = .ok (.iinc 4 1, 3) := by decide +kernel
theorem d_BlockReader_readLengths_50 : decode M_BlockReader_readLengths.2.1 50 = .ok (.goto (-24), 3) := by decide +kernel
theorem d_BlockReader_readLengths_53 : decode M_BlockReader_readLengths.2.1 53 = .ok (.iload_n 3, 1) := by decide +kernel
theorem d_BlockReader_readLengths_54 : decode M_BlockReader_readLengths.2.1 54 = .ok (.ifCond .ge 7, 3) := by decide +kernel
theorem d_BlockReader_readLengths_57 : decode M_BlockReader_readLengths.2.1 57 = .ok (.iload_n 3, 1) := by decide +kernel
theorem d_BlockReader_readLengths_58 : decode M_BlockReader_readLengths.2.1 58 = .ok (.goto 4, 3) := by decide +kernel
theorem d_BlockReader_readLengths_61 : decode M_BlockReader_readLengths.2.1 61 = .ok (.iconst 0, 1) := by decide +kernel
theorem d_BlockReader_readLengths_62 : decode M_BlockReader_readLengths.2.1 62 = .ok (.ireturn, 1) := by decide +kernel
theorem d_BlockReader_readLength_0 : decode M_BlockReader_readLength.2.1 0 = .ok (.iload_n 1, 1) := by decide +kernel
theorem d_BlockReader_readLength_1 : decode M_BlockReader_readLength.2.1 1 = .ok (.istore_n 2, 1) := by decide +kernel
theorem d_BlockReader_readLength_2 : decode M_BlockReader_readLength.2.1 2 = .ok (.iconst 0, 1) := by decide +kernel
theorem d_BlockReader_readLength_3 : decode M_BlockReader_readLength.2.1 3 = .ok (.istore_n 3, 1) := by decide +kernel
theorem d_BlockReader_readLength_4 : decode M_BlockReader_readLength.2.1 4 = .ok (.iload_n 3, 1) := by decide +kernel
theorem d_BlockReader_readLength_5 : decode M_BlockReader_readLength.2.1 5 = .ok (.sipush 3200, 3) := by decide +kernel
theorem d_BlockReader_readLength_8 : decode M_BlockReader_readLength.2.1 8 = .ok (.if_icmp .ge 82, 3) := by decide +kernel
theorem d_BlockReader_readLength_11 : decode M_BlockReader_readLength.2.1 11 = .ok (.aload_n 0, 1) := by decide +kernel
theorem d_BlockReader_readLength_12 : decode M_BlockReader_readLength.2.1 12 = .ok (.getfield 35, 3) := by decide +kernel
theorem d_BlockReader_readLength_15 : decode M_BlockReader_readLength.2.1 15 = .ok (.invokevirtual 132, 3) := by decide +kernel
theorem d_BlockReader_readLength_18 : decode M_BlockReader_readLength.2.1 18 = .ok (.aload_n 0, 1) := by decide +kernel
theorem d_BlockReader_readLength_19 : decode M_BlockReader_readLength.2.1 19 = .ok (.getfield 35, 3) := by decide +kernel
theorem d_BlockReader_readLength_22 : decode M_BlockReader_readLength.2.1 22 = .ok (.invokevirtual 135, 3) := by decide +kernel
theorem d_BlockReader_readLength_25 : decode M_BlockReader_readLength.2.1 25 = .ok (.istore 4, 2) := by decide +kernel
theorem d_BlockReader_readLength_27 : decode M_BlockReader_readLength.2.1 27 = .ok (.iload 4, 2) := by decide +kernel
theorem d_BlockReader_readLength_29 : decode M_BlockReader_readLength.2.1 29 = .ok (.ifCond .gt 15, 3) := by decide +kernel
theorem d_BlockReader_readLength_32 : decode M_BlockReader_readLength.2.1 32 = .ok (.iload 4, 2) := by decide +kernel
theorem d_BlockReader_readLength_34 : decode M_BlockReader_readLength.2.1 34 = .ok (.ifCond .ge 8, 3) := by decide +kernel
theorem d_BlockReader_readLength_37 : decode M_BlockReader_readLength.2.1 37 = .ok (.iload 4, 2) := by decide +kernel
theorem d_BlockReader_readLength_39 : decode M_BlockReader_readLength.2.1 39 = .ok (.goto 4, 3) := by decide +kernel
theorem d_BlockReader_readLength_42 : decode M_BlockReader_readLength.2.1 42 = .ok (.iload_n 2, 1) := by decide +kernel
theorem d_BlockReader_readLength_43 : decode M_BlockReader_readLength.2.1 43 = .ok (.ireturn, 1) := by decide +kernel
theorem d_BlockReader_readLength_44 : decode M_BlockReader_readLength.2.1 44 = .ok (.aload_n 0, 1) := by decide +kernel
theorem d_BlockReader_readLength_45 : decode M_BlockReader_readLength.2.1 45 = .ok (.getfield 35, 3) := by decide +kernel
theorem d_BlockReader_readLength_48 : decode M_BlockReader_readLength.2.1 48 = .ok (.invokevirtual 135, 3) := by decide +kernel
theorem d_BlockReader_readLength_51 : decode M_BlockReader_readLength.2.1 51 = .ok (.istore 5, 2) := by decide +kernel
theorem d_BlockReader_readLength_53 : decode M_BlockReader_readLength.2.1 53 = .ok (.iload 5, 2) := by decide +kernel
theorem d_BlockReader_readLength_55 : decode M_BlockReader_readLength.2.1 55 = .ok (.ifCond .ge 6, 3) := by decide +kernel
theorem d_BlockReader_readLength_58 : decode M_BlockReader_readLength.2.1 58 = .ok (.iload 5, 2) := by decide +kernel
theorem d_BlockReader_readLength_60 : decode M_BlockReader_readLength.2.1 60 = .ok (.ireturn, 1) := by decide +kernel
theorem d_BlockReader_readLength_61 : decode M_BlockReader_readLength.2.1 61 = .ok (.iload_n 2, 1) := by decide +kernel
theorem d_BlockReader_readLength_62 : decode M_BlockReader_readLength.2.1 62 = .ok (.iload 5, 2) := by decide +kernel
theorem d_BlockReader_readLength_64 : decode M_BlockReader_readLength.2.1 64 = .ok (.ifCond .ne 7, 3) := by decide +kernel
theorem d_BlockReader_readLength_67 : decode M_BlockReader_readLength.2.1 67 = .ok (.iconst 1, 1) := by decide +kernel
theorem d_BlockReader_readLength_68 : decode M_BlockReader_readLength.2.1 68 = .ok (.goto 4, 3) := by decide +kernel
theorem d_BlockReader_readLength_71 : decode M_BlockReader_readLength.2.1 71 = .ok (.iconst (-1), 1) := by decide +kernel
theorem d_BlockReader_readLength_72 : decode M_BlockReader_readLength.2.1 72 = .ok (.iadd, 1) := by decide +kernel
theorem d_BlockReader_readLength_73 : decode M_BlockReader_readLength.2.1 73 = .ok (.istore_n 2, 1) := by decide +kernel
theorem d_BlockReader_readLength_74 : decode M_BlockReader_readLength.2.1 74 = .ok (.iload_n 2, 1) := by decide +kernel
theorem d_BlockReader_readLength_75 : decode M_BlockReader_readLength.2.1 75 = .ok (.invokestatic 154, 3) := by decide +kernel
theorem d_BlockReader_readLength_78 : decode M_BlockReader_readLength.2.1 78 = .ok (.ifCond .ne 6, 3) := by decide +kernel
theorem d_BlockReader_readLength_81 : decode M_BlockReader_readLength.2.1 81 = .ok (.bipush (-9), 2) := by decide +kernel
theorem d_BlockReader_readLength_83 : decode M_BlockReader_readLength.2.1 83 = .ok (.ireturn, 1) := by decide +kernel
theorem d_BlockReader_readLength_84 : decode M_BlockReader_readLength.2.1 84 = .ok (.iinc 3 1, 3) := by decide +kernel
theorem d_BlockReader_readLength_87 : decode M_BlockReader_readLength.2.1 87 = .ok (.goto (-83), 3) := by decide +kernel
theorem d_BlockReader_readLength_90 : decode M_BlockReader_readLength.2.1 90 = .ok (.bipush (-2), 2) := by decide +kernel
theorem d_BlockReader_readLength_92 : decode M_BlockReader_readLength.2.1 92 = .ok (.ireturn, 1) := by decide +kernel
theorem d_BlockReader_readSymbols_0 : decode M_BlockReader_readSymbols.2.1 0 = .ok (.aload_n 0, 1) := by decide +kernel
theorem d_BlockReader_readSymbols_1 : decode M_BlockReader_readSymbols.2.1 1 = .ok (.getfield 12, 3) := by decide +kernel
theorem d_BlockReader_readSymbols_4 : decode M_BlockReader_readSymbols.2.1 4 = .ok (.aload_n 1, 1) := by decide +kernel
theorem d_BlockReader_readSymbols_5 : decode M_BlockReader_readSymbols.2.1 5 = .ok (.getfield 161, 3) := by decide +kernel
theorem d_BlockReader_readSymbols_8 : decode M_BlockReader_readSymbols.2.1 8 = .ok (.aload_n 1, 1) := by decide +kernel
theorem d_BlockReader_readSymbols_9 : decode M_BlockReader_readSymbols.2.1 9 = .ok (.getfield 101, 3) := by decide +kernel
theorem d_BlockReader_readSymbols_12 : decode M_BlockReader_readSymbols.2.1 12 = .ok (.invokevirtual 164, 3) := by decide +kernel
theorem d_BlockReader_readSymbols_15 : decode M_BlockReader_readSymbols.2.1 15 = .ok (.aload_n 1, 1) := by decide +kernel
theorem d_BlockReader_readSymbols_16 : decode M_BlockReader_readSymbols.2.1 16 = .ok (.iconst 0, 1) := by decide +kernel
theorem d_BlockReader_readSymbols_17 : decode M_BlockReader_readSymbols.2.1 17 = .ok (.putfield 165, 3) := by decide +kernel
theorem d_BlockReader_readSymbols_20 : decode M_BlockReader_readSymbols.2.1 20 = .ok (.aload_n 1, 1) := by decide +kernel
theorem d_BlockReader_readSymbols_21 : decode M_BlockReader_readSymbols.2.1 21 = .ok (.iconst 0, 1) := by decide +kernel
theorem d_BlockReader_readSymbols_22 : decode M_BlockReader_readSymbols.2.1 22 = .ok (.putfield 168, 3) := by decide +kernel
theorem d_BlockReader_readSymbols_25 : decode M_BlockReader_readSymbols.2.1 25 = .ok (.aload_n 0, 1) := by decide +kernel
theorem d_BlockReader_readSymbols_26 : decode M_BlockReader_readSymbols.2.1 26 = .ok (.iconst 1, 1) := by decide +kernel
theorem d_BlockReader_readSymbols_27 : decode M_BlockReader_readSymbols.2.1 27 = .ok (.putfield 31, 3) := by decide +kernel
theorem d_BlockReader_readSymbols_30 : decode M_BlockReader_readSymbols.2.1 30 = .ok (.iconst 0, 1) := by decide +kernel
theorem d_BlockReader_readSymbols_31 : decode M_BlockReader_readSymbols.2.1 31 = .ok (.istore_n 3, 1) := by decide +kernel
theorem d_BlockReader_readSymbols_32 : decode M_BlockReader_readSymbols.2.1 32 = .ok (.iload_n 3, 1) := by decide +kernel
theorem d_BlockReader_readSymbols_33 : decode M_BlockReader_readSymbols.2.1 33 = .ok (.bipush 8, 2) := by decide +kernel
theorem d_BlockReader_readSymbols_35 : decode M_BlockReader_readSymbols.2.1 35 = .ok (.aload_n 1, 1) := by decide +kernel
theorem d_BlockReader_readSymbols_36 : decode M_BlockReader_readSymbols.2.1 36 = .ok (.getfield 117, 3) := by decide +kernel
theorem d_BlockReader_readSymbols_39 : decode M_BlockReader_readSymbols.2.1 39 = .ok (.imul, 1) := by decide +kernel
theorem d_BlockReader_readSymbols_40 : decode M_BlockReader_readSymbols.2.1 40 = .ok (.if_icmp .ge 64, 3) := by decide +kernel
theorem d_BlockReader_readSymbols_43 : decode M_BlockReader_readSymbols.2.1 43 = .ok (.aload_n 0, 1) := by decide +kernel
theorem d_BlockReader_readSymbols_44 : decode M_BlockReader_readSymbols.2.1 44 = .ok (.aload_n 0, 1) := by decide +kernel
theorem d_BlockReader_readSymbols_45 : decode M_BlockReader_readSymbols.2.1 45 = .ok (.getfield 20, 3) := by decide +kernel
theorem d_BlockReader_readSymbols_48 : decode M_BlockReader_readSymbols.2.1 48 = .ok (.aload_n 1, 1) := by decide +kernel
theorem d_BlockReader_readSymbols_49 : decode M_BlockReader_readSymbols.2.1 49 = .ok (.iload_n 3, 1) := by decide +kernel
theorem d_BlockReader_readSymbols_50 : decode M_BlockReader_readSymbols.2.1 50 = .ok (.invokevirtual 169, 3) := by decide +kernel
theorem d_BlockReader_readSymbols_53 : decode M_BlockReader_readSymbols.2.1 53 = .ok (.aaload, 1) := by decide +kernel
theorem d_BlockReader_readSymbols_54 : decode M_BlockReader_readSymbols.2.1 54 = .ok (.invokevirtual 172, 3) := by decide +kernel
theorem d_BlockReader_readSymbols_57 : decode M_BlockReader_readSymbols.2.1 57 = .ok (.istore 4, 2) := by decide +kernel
theorem d_BlockReader_readSymbols_59 : decode M_BlockReader_readSymbols.2.1 59 = .ok (.iload 4, 2) := by decide +kernel
theorem d_BlockReader_readSymbols_61 : decode M_BlockReader_readSymbols.2.1 61 = .ok (.ifCond .ge 6, 3) := by decide +kernel
theorem d_BlockReader_readSymbols_64 : decode M_BlockReader_readSymbols.2.1 64 = .ok (.iload 4, 2) := by decide +kernel
theorem d_BlockReader_readSymbols_66 : decode M_BlockReader_readSymbols.2.1 66 = .ok (.ireturn, 1) := by decide +kernel
theorem d_BlockReader_readSymbols_67 : decode M_BlockReader_readSymbols.2.1 67 = .ok (.aload_n 1, 1) := by decide +kernel
theorem d_BlockReader_readSymbols_68 : decode M_BlockReader_readSymbols.2.1 68 = .ok (.iload 4, 2) := by decide +kernel
theorem d_BlockReader_readSymbols_70 : decode M_BlockReader_readSymbols.2.1 70 = .ok (.invokevirtual 176, 3) := by decide +kernel
theorem d_BlockReader_readSymbols_73 : decode M_BlockReader_readSymbols.2.1 73 = .ok (.iload 4, 2) := by decide +kernel
theorem d_BlockReader_readSymbols_75 : decode M_BlockReader_readSymbols.2.1 75 = .ok (.aload_n 1, 1) := by decide +kernel
theorem d_BlockReader_readSymbols_76 : decode M_BlockReader_readSymbols.2.1 76 = .ok (.invokevirtual 179, 3) := by decide +kernel
theorem d_BlockReader_readSymbols_79 : decode M_BlockReader_readSymbols.2.1 79 = .ok (.if_icmp .ne 5, 3) := by decide +kernel
theorem d_BlockReader_readSymbols_82 : decode M_BlockReader_readSymbols.2.1 82 = .ok (.iconst 0, 1) := by decide +kernel
theorem d_BlockReader_readSymbols_83 : decode M_BlockReader_readSymbols.2.1 83 = .ok (.ireturn, 1) := by decide +kernel
theorem d_BlockReader_readSymbols_84 : decode M_BlockReader_readSymbols.2.1 84 = .ok (.aload_n 0, 1) := by decide +kernel
theorem d_BlockReader_readSymbols_85 : decode M_BlockReader_readSymbols.2.1 85 = .ok (.aload_n 1, 1) := by decide +kernel
theorem d_BlockReader_readSymbols_86 : decode M_BlockReader_readSymbols.2.1 86 = .ok (.iload 4, 2) := by decide +kernel
theorem d_BlockReader_readSymbols_88 : decode M_BlockReader_readSymbols.2.1 88 = .ok (.iload_n 2, 1) := by decide +kernel
theorem d_BlockReader_readSymbols_89 : decode M_BlockReader_readSymbols.2.1 89 = .ok (.invokevirtual 182, 3) := by decide +kernel
theorem d_BlockReader_readSymbols_92 : decode M_BlockReader_readSymbols.2.1 92 = .ok (.ifCond .ne 6, 3) := by decide +kernel
theorem d_BlockReader_readSymbols_95 : decode M_BlockReader_readSymbols.2.1 95 = .ok (.bipush (-11), 2) := by decide +kernel
theorem d_BlockReader_readSymbols_97 : decode M_BlockReader_readSymbols.2.1 97 = .ok (.ireturn, 1) := by decide +kernel
theorem d_BlockReader_readSymbols_98 : decode M_BlockReader_readSymbols.2.1 98 = .ok (.iinc 3 1, 3) := by decide +kernel
theorem d_BlockReader_readSymbols_101 : decode M_BlockReader_readSymbols.2.1 101 = .ok (.goto (-69), 3) := by decide +kernel
theorem d_BlockReader_readSymbols_104 : decode M_BlockReader_readSymbols.2.1 104 = .ok (.aload_n 0, 1) := by decide +kernel
theorem d_BlockReader_readSymbols_105 : decode M_BlockReader_readSymbols.2.1 105 = .ok (.getfield 35, 3) := by decide +kernel
theorem d_BlockReader_readSymbols_108 : decode M_BlockReader_readSymbols.2.1 108 = .ok (.invokevirtual 132, 3) := by decide +kernel
theorem d_BlockReader_readSymbols_111 : decode M_BlockReader_readSymbols.2.1 111 = .ok (.bipush (-11), 2) := by decide +kernel
theorem d_BlockReader_readSymbols_113 : decode M_BlockReader_readSymbols.2.1 113 = .ok (.ireturn, 1) := by decide +kernel
theorem d_BlockReader_readSymbol_0 : decode M_BlockReader_readSymbol.2.1 0 = .ok (.aload_n 0, 1) := by decide +kernel
theorem d_BlockReader_readSymbol_1 : decode M_BlockReader_readSymbol.2.1 1 = .ok (.getfield 35, 3) := by decide +kernel
theorem d_BlockReader_readSymbol_4 : decode M_BlockReader_readSymbol.2.1 4 = .ok (.invokevirtual 132, 3) := by decide +kernel
theorem d_BlockReader_readSymbol_7 : decode M_BlockReader_readSymbol.2.1 7 = .ok (.iconst 0, 1) := by decide +kernel
theorem d_BlockReader_readSymbol_8 : decode M_BlockReader_readSymbol.2.1 8 = .ok (.istore_n 2, 1) := by decide +kernel
theorem d_BlockReader_readSymbol_9 : decode M_BlockReader_readSymbol.2.1 9 = .ok (.iconst 1, 1) := by decide +kernel
theorem d_BlockReader_readSymbol_10 : decode M_BlockReader_readSymbol.2.1 10 = .ok (.istore_n 3, 1) := by decide +kernel
theorem d_BlockReader_readSymbol_11 : decode M_BlockReader_readSymbol.2.1 11 = .ok (.iload_n 3, 1) := by decide +kernel
theorem d_BlockReader_readSymbol_12 : decode M_BlockReader_readSymbol.2.1 12 = .ok (.bipush 12, 2) := by decide +kernel
theorem d_BlockReader_readSymbol_14 : decode M_BlockReader_readSymbol.2.1 14 = .ok (.if_icmp .gt 49, 3) := by decide +kernel
theorem d_BlockReader_readSymbol_17 : decode M_BlockReader_readSymbol.2.1 17 = .ok (.aload_n 0, 1) := by decide +kernel
theorem d_BlockReader_readSymbol_18 : decode M_BlockReader_readSymbol.2.1 18 = .ok (.getfield 35, 3) := by decide +kernel
theorem d_BlockReader_readSymbol_21 : decode M_BlockReader_readSymbol.2.1 21 = .ok (.invokevirtual 135, 3) := by decide +kernel
theorem d_BlockReader_readSymbol_24 : decode M_BlockReader_readSymbol.2.1 24 = .ok (.istore 4, 2) := by decide +kernel
theorem d_BlockReader_readSymbol_26 : decode M_BlockReader_readSymbol.2.1 26 = .ok (.iload 4, 2) := by decide +kernel
theorem d_BlockReader_readSymbol_28 : decode M_BlockReader_readSymbol.2.1 28 = .ok (.ifCond .ge 6, 3) := by decide +kernel
theorem d_BlockReader_readSymbol_31 : decode M_BlockReader_readSymbol.2.1 31 = .ok (.iload 4, 2) := by decide +kernel
theorem d_BlockReader_readSymbol_33 : decode M_BlockReader_readSymbol.2.1 33 = .ok (.ireturn, 1) := by decide +kernel
theorem d_BlockReader_readSymbol_34 : decode M_BlockReader_readSymbol.2.1 34 = .ok (.iload_n 2, 1) := by decide +kernel
theorem d_BlockReader_readSymbol_35 : decode M_BlockReader_readSymbol.2.1 35 = .ok (.iconst 1, 1) := by decide +kernel
theorem d_BlockReader_readSymbol_36 : decode M_BlockReader_readSymbol.2.1 36 = .ok (.ishl, 1) := by decide +kernel
theorem d_BlockReader_readSymbol_37 : decode M_BlockReader_readSymbol.2.1 37 = .ok (.iload 4, 2) := by decide +kernel
theorem d_BlockReader_readSymbol_39 : decode M_BlockReader_readSymbol.2.1 39 = .ok (.ior, 1) := by decide +kernel
theorem d_BlockReader_readSymbol_40 : decode M_BlockReader_readSymbol.2.1 40 = .ok (.istore_n 2, 1) := by decide +kernel
theorem d_BlockReader_readSymbol_41 : decode M_BlockReader_readSymbol.2.1 41 = .ok (.aload_n 1, 1) := by decide +kernel
theorem d_BlockReader_readSymbol_42 : decode M_BlockReader_readSymbol.2.1 42 = .ok (.iload_n 2, 1) := by decide +kernel
theorem d_BlockReader_readSymbol_43 : decode M_BlockReader_readSymbol.2.1 43 = .ok (.iload_n 3, 1) := by decide +kernel
theorem d_BlockReader_readSymbol_44 : decode M_BlockReader_readSymbol.2.1 44 = .ok (.invokevirtual 186, 3) := by decide +kernel
theorem d_BlockReader_readSymbol_47 : decode M_BlockReader_readSymbol.2.1 47 = .ok (.istore 5, 2) := by decide +kernel
theorem d_BlockReader_readSymbol_49 : decode M_BlockReader_readSymbol.2.1 49 = .ok (.iload 5, 2) := by decide +kernel
theorem d_BlockReader_readSymbol_51 : decode M_BlockReader_readSymbol.2.1 51 = .ok (.ifCond .lt 6, 3) := by decide +kernel
theorem d_BlockReader_readSymbol_54 : decode M_BlockReader_readSymbol.2.1 54 = .ok (.iload 5, 2) := by decide +kernel
theorem d_BlockReader_readSymbol_56 : decode M_BlockReader_readSymbol.2.1 56 = .ok (.ireturn, 1) := by decide +kernel
theorem d_BlockReader_readSymbol_57 : decode M_BlockReader_readSymbol.2.1 57 = .ok (.iinc 3 1, 3) := by decide +kernel
theorem d_BlockReader_readSymbol_60 : decode M_BlockReader_readSymbol.2.1 60 = .ok (.goto (-49), 3) := by decide +kernel
theorem d_BlockReader_readSymbol_63 : decode M_BlockReader_readSymbol.2.1 63 = .ok (.bipush (-10), 2) := by decide +kernel
theorem d_BlockReader_readSymbol_65 : decode M_BlockReader_readSymbol.2.1 65 = .ok (.ireturn, 1) := by decide +kernel
theorem d_BlockReader_addBytes_0 : decode M_BlockReader_addBytes.2.1 0 = .ok (.iload_n 2, 1) := by decide +kernel
theorem d_BlockReader_addBytes_1 : decode M_BlockReader_addBytes.2.1 1 = .ok (.iconst 2, 1) := by decide +kernel
theorem d_BlockReader_addBytes_2 : decode M_BlockReader_addBytes.2.1 2 = .ok (.if_icmp .ge 7, 3) := by decide +kernel
theorem d_BlockReader_addBytes_5 : decode M_BlockReader_addBytes.2.1 5 = .ok (.iconst 1, 1) := by decide +kernel
theorem d_BlockReader_addBytes_6 : decode M_BlockReader_addBytes.2.1 6 = .ok (.goto 4, 3) := by decide +kernel
theorem d_BlockReader_addBytes_9 : decode M_BlockReader_addBytes.2.1 9 = .ok (.iconst 0, 1) := by decide +kernel
theorem d_BlockReader_addBytes_10 : decode M_BlockReader_addBytes.2.1 10 = .ok (.istore 4, 2) := by decide +kernel
theorem d_BlockReader_addBytes_12 : decode M_BlockReader_addBytes.2.1 12 = .ok (.iload 4, 2) := by decide +kernel
theorem d_BlockReader_addBytes_14 : decode M_BlockReader_addBytes.2.1 14 = .ok (.ifCond .eq 12, 3) := by decide +kernel
theorem d_BlockReader_addBytes_17 : decode M_BlockReader_addBytes.2.1 17 = .ok (.aload_n 0, 1) := by decide +kernel
theorem d_BlockReader_addBytes_18 : decode M_BlockReader_addBytes.2.1 18 = .ok (.getfield 31, 3) := by decide +kernel
theorem d_BlockReader_addBytes_21 : decode M_BlockReader_addBytes.2.1 21 = .ok (.iload_n 2, 1) := by decide +kernel
theorem d_BlockReader_addBytes_22 : decode M_BlockReader_addBytes.2.1 22 = .ok (.ishl, 1) := by decide +kernel
theorem d_BlockReader_addBytes_23 : decode M_BlockReader_addBytes.2.1 23 = .ok (.goto 4, 3) := by decide +kernel
theorem d_BlockReader_addBytes_26 : decode M_BlockReader_addBytes.2.1 26 = .ok (.iconst 1, 1) := by decide +kernel
theorem d_BlockReader_addBytes_27 : decode M_BlockReader_addBytes.2.1 27 = .ok (.istore 5, 2) := by decide +kernel
theorem d_BlockReader_addBytes_29 : decode M_BlockReader_addBytes.2.1 29 = .ok (.aload_n 1, 1) := by decide +kernel
theorem d_BlockReader_addBytes_30 : decode M_BlockReader_addBytes.2.1 30 = .ok (.getfield 168, 3) := by decide +kernel
theorem d_BlockReader_addBytes_33 : decode M_BlockReader_addBytes.2.1 33 = .ok (.iload 5, 2) := by decide +kernel
theorem d_BlockReader_addBytes_35 : decode M_BlockReader_addBytes.2.1 35 = .ok (.iadd, 1) := by decide +kernel
theorem d_BlockReader_addBytes_36 : decode M_BlockReader_addBytes.2.1 36 = .ok (.iload_n 3, 1) := by decide +kernel
theorem d_BlockReader_addBytes_37 : decode M_BlockReader_addBytes.2.1 37 = .ok (.if_icmp .le 5, 3) := by decide +kernel
theorem d_BlockReader_addBytes_40 : decode M_BlockReader_addBytes.2.1 40 = .ok (.iconst 0, 1) := by decide +kernel
theorem d_BlockReader_addBytes_41 : decode M_BlockReader_addBytes.2.1 41 = .ok (.ireturn, 1) := by decide +kernel
theorem d_BlockReader_addBytes_42 : decode M_BlockReader_addBytes.2.1 42 = .ok (.aload_n 0, 1) := by decide +kernel
theorem d_BlockReader_addBytes_43 : decode M_BlockReader_addBytes.2.1 43 = .ok (.getfield 12, 3) := by decide +kernel
theorem d_BlockReader_addBytes_46 : decode M_BlockReader_addBytes.2.1 46 = .ok (.iload 4, 2) := by decide +kernel
theorem d_BlockReader_addBytes_48 : decode M_BlockReader_addBytes.2.1 48 = .ok (.ifCond .eq 7, 3) := by decide +kernel
theorem d_BlockReader_addBytes_51 : decode M_BlockReader_addBytes.2.1 51 = .ok (.iconst 0, 1) := by decide +kernel
theorem d_BlockReader_addBytes_52 : decode M_BlockReader_addBytes.2.1 52 = .ok (.goto 6, 3) := by decide +kernel
theorem d_BlockReader_addBytes_55 : decode M_BlockReader_addBytes.2.1 55 = .ok (.iload_n 2, 1) := by decide +kernel
theorem d_BlockReader_addBytes_56 : decode M_BlockReader_addBytes.2.1 56 = .ok (.iconst 1, 1) := by decide +kernel
theorem d_BlockReader_addBytes_57 : decode M_BlockReader_addBytes.2.1 57 = .ok (.isub, 1) := by decide +kernel
theorem d_BlockReader_addBytes_58 : decode M_BlockReader_addBytes.2.1 58 = .ok (.invokevirtual 129, 3) := by decide +kernel
theorem d_BlockReader_addBytes_61 : decode M_BlockReader_addBytes.2.1 61 = .ok (.istore 6, 2) := by decide +kernel
theorem d_BlockReader_addBytes_63 : decode M_BlockReader_addBytes.2.1 63 = .ok (.iconst 0, 1) := by decide +kernel
theorem d_BlockReader_addBytes_64 : decode M_BlockReader_addBytes.2.1 64 = .ok (.istore 7, 2) := by decide +kernel
theorem d_BlockReader_addBytes_66 : decode M_BlockReader_addBytes.2.1 66 = .ok (.iload 7, 2) := by decide +kernel
theorem d_BlockReader_addBytes_68 : decode M_BlockReader_addBytes.2.1 68 = .ok (.iload 5, 2) := by decide +kernel
theorem d_BlockReader_addBytes_70 : decode M_BlockReader_addBytes.2.1 70 = .ok (.if_icmp .ge 15, 3) := by decide +kernel
theorem d_BlockReader_addBytes_73 : decode M_BlockReader_addBytes.2.1 73 = .ok (.aload_n 1, 1) := by decide +kernel
theorem d_BlockReader_addBytes_74 : decode M_BlockReader_addBytes.2.1 74 = .ok (.iload 6, 2) := by decide +kernel
theorem d_BlockReader_addBytes_76 : decode M_BlockReader_addBytes.2.1 76 = .ok (.invokevirtual 190, 3) := by decide +kernel
theorem d_BlockReader_addBytes_79 : decode M_BlockReader_addBytes.2.1 79 = .ok (.iinc 7 1, 3) := by decide +kernel
theorem d_BlockReader_addBytes_82 : decode M_BlockReader_addBytes.2.1 82 = .ok (.goto (-16), 3) := by decide +kernel
theorem d_BlockReader_addBytes_85 : decode M_BlockReader_addBytes.2.1 85 = .ok (.aload_n 0, 1) := by decide +kernel
theorem d_BlockReader_addBytes_86 : decode M_BlockReader_addBytes.2.1 86 = .ok (.iload 4, 2) := by decide +kernel
theorem d_BlockReader_addBytes_88 : decode M_BlockReader_addBytes.2.1 88 = .ok (.ifCond .eq 12, 3) := by decide +kernel
theorem d_BlockReader_addBytes_91 : decode M_BlockReader_addBytes.2.1 91 = .ok (.iconst 2, 1) := by decide +kernel
theorem d_BlockReader_addBytes_92 : decode M_BlockReader_addBytes.2.1 92 = .ok (.aload_n 0, 1) := by decide +kernel
theorem d_BlockReader_addBytes_93 : decode M_BlockReader_addBytes.2.1 93 = .ok (.getfield 31, 3) := by decide +kernel
theorem d_BlockReader_addBytes_96 : decode M_BlockReader_addBytes.2.1 96 = .ok (.imul, 1) := by decide +kernel
theorem d_BlockReader_addBytes_97 : decode M_BlockReader_addBytes.2.1 97 = .ok (.goto 4, 3) := by decide +kernel
theorem d_BlockReader_addBytes_100 : decode M_BlockReader_addBytes.2.1 100 = .ok (.iconst 1, 1) := by decide +kernel
theorem d_BlockReader_addBytes_101 : decode M_BlockReader_addBytes.2.1 101 = .ok (.putfield 31, 3) := by decide +kernel
theorem d_BlockReader_addBytes_104 : decode M_BlockReader_addBytes.2.1 104 = .ok (.iconst 1, 1) := by decide +kernel
theorem d_BlockReader_addBytes_105 : decode M_BlockReader_addBytes.2.1 105 = .ok (.ireturn, 1) := by decide +kernel
theorem d_BlockReader_unsort_0 : decode M_BlockReader_unsort.2.1 0 = .ok (.aload_n 1, 1) := by decide +kernel
theorem d_BlockReader_unsort_1 : decode M_BlockReader_unsort.2.1 1 = .ok (.getfield 98, 3) := by decide +kernel
theorem d_BlockReader_unsort_4 : decode M_BlockReader_unsort.2.1 4 = .ok (.aload_n 1, 1) := by decide +kernel
theorem d_BlockReader_unsort_5 : decode M_BlockReader_unsort.2.1 5 = .ok (.getfield 168, 3) := by decide +kernel
theorem d_BlockReader_unsort_8 : decode M_BlockReader_unsort.2.1 8 = .ok (.if_icmp .lt 6, 3) := by decide +kernel
theorem d_BlockReader_unsort_11 : decode M_BlockReader_unsort.2.1 11 = .ok (.bipush (-12), 2) := by decide +kernel
theorem d_BlockReader_unsort_13 : decode M_BlockReader_unsort.2.1 13 = .ok (.ireturn, 1) := by decide +kernel
theorem d_BlockReader_unsort_14 : decode M_BlockReader_unsort.2.1 14 = .ok (.aload_n 0, 1) := by decide +kernel
theorem d_BlockReader_unsort_15 : decode M_BlockReader_unsort.2.1 15 = .ok (.aload_n 1, 1) := by decide +kernel
theorem d_BlockReader_unsort_16 : decode M_BlockReader_unsort.2.1 16 = .ok (.invokevirtual 193, 3) := by decide +kernel
theorem d_BlockReader_unsort_19 : decode M_BlockReader_unsort.2.1 19 = .ok (.aload_n 1, 1) := by decide +kernel
theorem d_BlockReader_unsort_20 : decode M_BlockReader_unsort.2.1 20 = .ok (.getfield 98, 3) := by decide +kernel
theorem d_BlockReader_unsort_23 : decode M_BlockReader_unsort.2.1 23 = .ok (.istore_n 2, 1) := by decide +kernel
theorem d_BlockReader_unsort_24 : decode M_BlockReader_unsort.2.1 24 = .ok (.iconst 0, 1) := by decide +kernel
theorem d_BlockReader_unsort_25 : decode M_BlockReader_unsort.2.1 25 = .ok (.istore_n 3, 1) := by decide +kernel
theorem d_BlockReader_unsort_26 : decode M_BlockReader_unsort.2.1 26 = .ok (.iload_n 3, 1) := by decide +kernel
theorem d_BlockReader_unsort_27 : decode M_BlockReader_unsort.2.1 27 = .ok (.aload_n 1, 1) := by decide +kernel
theorem d_BlockReader_unsort_28 : decode M_BlockReader_unsort.2.1 28 = .ok (.getfield 168, 3) := by decide +kernel
theorem d_BlockReader_unsort_31 : decode M_BlockReader_unsort.2.1 31 = .ok (.if_icmp .ge 28, 3) := by decide +kernel
theorem d_BlockReader_unsort_34 : decode M_BlockReader_unsort.2.1 34 = .ok (.aload_n 0, 1) := by decide +kernel
theorem d_BlockReader_unsort_35 : decode M_BlockReader_unsort.2.1 35 = .ok (.getfield 24, 3) := by decide +kernel
theorem d_BlockReader_unsort_38 : decode M_BlockReader_unsort.2.1 38 = .ok (.iload_n 2, 1) := by decide +kernel
theorem d_BlockReader_unsort_39 : decode M_BlockReader_unsort.2.1 39 = .ok (.iaload, 1) := by decide +kernel
theorem d_BlockReader_unsort_40 : decode M_BlockReader_unsort.2.1 40 = .ok (.istore_n 2, 1) := by decide +kernel
theorem d_BlockReader_unsort_41 : decode M_BlockReader_unsort.2.1 41 = .ok (.aload_n 1, 1) := by decide +kernel
theorem d_BlockReader_unsort_42 : decode M_BlockReader_unsort.2.1 42 = .ok (.getfield 197, 3) := by decide +kernel
theorem d_BlockReader_unsort_45 : decode M_BlockReader_unsort.2.1 45 = .ok (.iload_n 3, 1) := by decide +kernel
theorem d_BlockReader_unsort_46 : decode M_BlockReader_unsort.2.1 46 = .ok (.aload_n 1, 1) := by decide +kernel
theorem d_BlockReader_unsort_47 : decode M_BlockReader_unsort.2.1 47 = .ok (.getfield 200, 3) := by decide +kernel
theorem d_BlockReader_unsort_50 : decode M_BlockReader_unsort.2.1 50 = .ok (.iload_n 2, 1) := by decide +kernel
theorem d_BlockReader_unsort_51 : decode M_BlockReader_unsort.2.1 51 = .ok (.iaload, 1) := by decide +kernel
theorem d_BlockReader_unsort_52 : decode M_BlockReader_unsort.2.1 52 = .ok (.iastore, 1) := by decide +kernel
theorem d_BlockReader_unsort_53 : decode M_BlockReader_unsort.2.1 53 = .ok (.iinc 3 1, 3) := by decide +kernel
theorem d_BlockReader_unsort_56 : decode M_BlockReader_unsort.2.1 56 = .ok (.goto (-30), 3) := by decide +kernel
theorem d_BlockReader_unsort_59 : decode M_BlockReader_unsort.2.1 59 = .ok (.iconst 0, 1) := by decide +kernel
theorem d_BlockReader_unsort_60 : decode M_BlockReader_unsort.2.1 60 = .ok (.ireturn, 1) := by decide +kernel
theorem d_BlockReader_findFollowers_0 : decode M_BlockReader_findFollowers.2.1 0 = .ok (.aload_n 0, 1) := by decide +kernel
theorem d_BlockReader_findFollowers_1 : decode M_BlockReader_findFollowers.2.1 1 = .ok (.getfield 28, 3) := by decide +kernel
theorem d_BlockReader_findFollowers_4 : decode M_BlockReader_findFollowers.2.1 4 = .ok (.iconst 0, 1) := by decide +kernel
theorem d_BlockReader_findFollowers_5 : decode M_BlockReader_findFollowers.2.1 5 = .ok (.invokestatic 203, 3) := by decide +kernel
theorem d_BlockReader_findFollowers_8 : decode M_BlockReader_findFollowers.2.1 8 = .ok (.iconst 0, 1) := by decide +kernel
theorem d_BlockReader_findFollowers_9 : decode M_BlockReader_findFollowers.2.1 9 = .ok (.istore_n 2, 1) := by decide +kernel
theorem d_BlockReader_findFollowers_10 : decode M_BlockReader_findFollowers.2.1 10 = .ok (.iload_n 2, 1) := by decide +kernel
theorem d_BlockReader_findFollowers_11 : decode M_BlockReader_findFollowers.2.1 11 = .ok (.aload_n 1, 1) := by decide +kernel
theorem d_BlockReader_findFollowers_12 : decode M_BlockReader_findFollowers.2.1 12 = .ok (.getfield 168, 3) := by decide +kernel
theorem d_BlockReader_findFollowers_15 : decode M_BlockReader_findFollowers.2.1 15 = .ok (.if_icmp .ge 24, 3) := by decide +kernel
theorem d_BlockReader_findFollowers_18 : decode M_BlockReader_findFollowers.2.1 18 = .ok (.aload_n 0, 1) := by decide +kernel
theorem d_BlockReader_findFollowers_19 : decode M_BlockReader_findFollowers.2.1 19 = .ok (.getfield 28, 3) := by decide +kernel
theorem d_BlockReader_findFollowers_22 : decode M_BlockReader_findFollowers.2.1 22 = .ok (.aload_n 1, 1) := by decide +kernel
theorem d_BlockReader_findFollowers_23 : decode M_BlockReader_findFollowers.2.1 23 = .ok (.getfield 200, 3) := by decide +kernel
theorem d_BlockReader_findFollowers_26 : decode M_BlockReader_findFollowers.2.1 26 = .ok (.iload_n 2, 1) := by decide +kernel
theorem d_BlockReader_findFollowers_27 : decode M_BlockReader_findFollowers.2.1 27 = .ok (.iaload, 1) := by decide +kernel
theorem d_BlockReader_findFollowers_28 : decode M_BlockReader_findFollowers.2.1 28 = .ok (.dup2, 1) := by decide +kernel
theorem d_BlockReader_findFollowers_29 : decode M_BlockReader_findFollowers.2.1 29 = .ok (.iaload, 1) := by decide +kernel
theorem d_BlockReader_findFollowers_30 : decode M_BlockReader_findFollowers.2.1 30 = .ok (.iconst 1, 1) := by decide +kernel
theorem d_BlockReader_findFollowers_31 : decode M_BlockReader_findFollowers.2.1 31 = .ok (.iadd, 1) := by decide +kernel
theorem d_BlockReader_findFollowers_32 : decode M_BlockReader_findFollowers.2.1 32 = .ok (.iastore, 1) := by decide +kernel
theorem d_BlockReader_findFollowers_33 : decode M_BlockReader_findFollowers.2.1 33 = .ok (.iinc 2 1, 3) := by decide +kernel
theorem d_BlockReader_findFollowers_36 : decode M_BlockReader_findFollowers.2.1 36 = .ok (.goto (-26), 3) := by decide +kernel
theorem d_BlockReader_findFollowers_39 : decode M_BlockReader_findFollowers.2.1 39 = .ok (.iconst 0, 1) := by decide +kernel
theorem d_BlockReader_findFollowers_40 : decode M_BlockReader_findFollowers.2.1 40 = .ok (.istore_n 2, 1) := by decide +kernel
theorem d_BlockReader_findFollowers_41 : decode M_BlockReader_findFollowers.2.1 41 = .ok (.iconst 0, 1) := by decide +kernel
theorem d_BlockReader_findFollowers_42 : decode M_BlockReader_findFollowers.2.1 42 = .ok (.istore_n 3, 1) := by decide +kernel
theorem d_BlockReader_findFollowers_43 : decode M_BlockReader_findFollowers.2.1 43 = .ok (.iload_n 3, 1) := by decide +kernel
theorem d_BlockReader_findFollowers_44 : decode M_BlockReader_findFollowers.2.1 44 = .ok (.sipush 256, 3) := by decide +kernel
theorem d_BlockReader_findFollowers_47 : decode M_BlockReader_findFollowers.2.1 47 = .ok (.if_icmp .ge 29, 3) := by decide +kernel
theorem d_BlockReader_findFollowers_50 : decode M_BlockReader_findFollowers.2.1 50 = .ok (.aload_n 0, 1) := by decide +kernel
theorem d_BlockReader_findFollowers_51 : decode M_BlockReader_findFollowers.2.1 51 = .ok (.getfield 28, 3) := by decide +kernel
theorem d_BlockReader_findFollowers_54 : decode M_BlockReader_findFollowers.2.1 54 = .ok (.iload_n 3, 1) := by decide +kernel
theorem d_BlockReader_findFollowers_55 : decode M_BlockReader_findFollowers.2.1 55 = .ok (.iaload, 1) := by decide +kernel
theorem d_BlockReader_findFollowers_56 : decode M_BlockReader_findFollowers.2.1 56 = .ok (.istore 4, 2) := by decide +kernel
theorem d_BlockReader_findFollowers_58 : decode M_BlockReader_findFollowers.2.1 58 = .ok (.aload_n 0, 1) := by decide +kernel
theorem d_BlockReader_findFollowers_59 : decode M_BlockReader_findFollowers.2.1 59 = .ok (.getfield 28, 3) := by decide +kernel
theorem d_BlockReader_findFollowers_62 : decode M_BlockReader_findFollowers.2.1 62 = .ok (.iload_n 3, 1) := by decide +kernel
theorem d_BlockReader_findFollowers_63 : decode M_BlockReader_findFollowers.2.1 63 = .ok (.iload_n 2, 1) := by decide +kernel
theorem d_BlockReader_findFollowers_64 : decode M_BlockReader_findFollowers.2.1 64 = .ok (.iastore, 1) := by decide +kernel
theorem d_BlockReader_findFollowers_65 : decode M_BlockReader_findFollowers.2.1 65 = .ok (.iload_n 2, 1) := by decide +kernel
theorem d_BlockReader_findFollowers_66 : decode M_BlockReader_findFollowers.2.1 66 = .ok (.iload 4, 2) := by decide +kernel
theorem d_BlockReader_findFollowers_68 : decode M_BlockReader_findFollowers.2.1 68 = .ok (.iadd, 1) := by decide +kernel
theorem d_BlockReader_findFollowers_69 : decode M_BlockReader_findFollowers.2.1 69 = .ok (.istore_n 2, 1) := by decide +kernel
theorem d_BlockReader_findFollowers_70 : decode M_BlockReader_findFollowers.2.1 70 = .ok (.iinc 3 1, 3) := by decide +kernel
theorem d_BlockReader_findFollowers_73 : decode M_BlockReader_findFollowers.2.1 73 = .ok (.goto (-30), 3) := by decide +kernel
theorem d_BlockReader_findFollowers_76 : decode M_BlockReader_findFollowers.2.1 76 = .ok (.iconst 0, 1) := by decide +kernel
theorem d_BlockReader_findFollowers_77 : decode M_BlockReader_findFollowers.2.1 77 = .ok (.istore_n 3, 1) := by decide +kernel
theorem d_BlockReader_findFollowers_78 : decode M_BlockReader_findFollowers.2.1 78 = .ok (.iload_n 3, 1) := by decide +kernel
theorem d_BlockReader_findFollowers_79 : decode M_BlockReader_findFollowers.2.1 79 = .ok (.aload_n 1, 1) := by decide +kernel
theorem d_BlockReader_findFollowers_80 : decode M_BlockReader_findFollowers.2.1 80 = .ok (.getfield 168, 3) := by decide +kernel
theorem d_BlockReader_findFollowers_83 : decode M_BlockReader_findFollowers.2.1 83 = .ok (.if_icmp .ge 41, 3) := by decide +kernel
theorem d_BlockReader_findFollowers_86 : decode M_BlockReader_findFollowers.2.1 86 = .ok (.aload_n 1, 1) := by decide +kernel
theorem d_BlockReader_findFollowers_87 : decode M_BlockReader_findFollowers.2.1 87 = .ok (.getfield 200, 3) := by decide +kernel
theorem d_BlockReader_findFollowers_90 : decode M_BlockReader_findFollowers.2.1 90 = .ok (.iload_n 3, 1) := by decide +kernel
theorem d_BlockReader_findFollowers_91 : decode M_BlockReader_findFollowers.2.1 91 = .ok (.iaload, 1) := by decide +kernel
theorem d_BlockReader_findFollowers_92 : decode M_BlockReader_findFollowers.2.1 92 = .ok (.istore 4, 2) := by decide +kernel
theorem d_BlockReader_findFollowers_94 : decode M_BlockReader_findFollowers.2.1 94 = .ok (.aload_n 0, 1) := by decide +kernel
theorem d_BlockReader_findFollowers_95 : decode M_BlockReader_findFollowers.2.1 95 = .ok (.getfield 24, 3) := by decide +kernel
theorem d_BlockReader_findFollowers_98 : decode M_BlockReader_findFollowers.2.1 98 = .ok (.aload_n 0, 1) := by decide +kernel
theorem d_BlockReader_findFollowers_99 : decode M_BlockReader_findFollowers.2.1 99 = .ok (.getfield 28, 3) := by decide +kernel
theorem d_BlockReader_findFollowers_102 : decode M_BlockReader_findFollowers.2.1 102 = .ok (.iload 4, 2) := by decide +kernel
theorem d_BlockReader_findFollowers_104 : decode M_BlockReader_findFollowers.2.1 104 = .ok (.iaload, 1) := by decide +kernel
theorem d_BlockReader_findFollowers_105 : decode M_BlockReader_findFollowers.2.1 105 = .ok (.iload_n 3, 1) := by decide +kernel
theorem d_BlockReader_findFollowers_106 : decode M_BlockReader_findFollowers.2.1 106 = .ok (.iastore, 1) := by decide +kernel
theorem d_BlockReader_findFollowers_107 : decode M_BlockReader_findFollowers.2.1 107 = .ok (.aload_n 0, 1) := by decide +kernel
theorem d_BlockReader_findFollowers_108 : decode M_BlockReader_findFollowers.2.1 108 = .ok (.getfield 28, 3) := by decide +kernel
theorem d_BlockReader_findFollowers_111 : decode M_BlockReader_findFollowers.2.1 111 = .ok (.iload 4, 2) := by decide +kernel
theorem d_BlockReader_findFollowers_113 : decode M_BlockReader_findFollowers.2.1 113 = .ok (.dup2, 1) := by decide +kernel
theorem d_BlockReader_findFollowers_114 : decode M_BlockReader_findFollowers.2.1 114 = .ok (.iaload, 1) := by decide +kernel
theorem d_BlockReader_findFollowers_115 : decode M_BlockReader_findFollowers.2.1 115 = .ok (.iconst 1, 1) := by decide +kernel
theorem d_BlockReader_findFollowers_116 : decode M_BlockReader_findFollowers.2.1 116 = .ok (.iadd, 1) := by decide +kernel
theorem d_BlockReader_findFollowers_117 : decode M_BlockReader_findFollowers.2.1 117 = .ok (.iastore, 1) := by decide +kernel
theorem d_BlockReader_findFollowers_118 : decode M_BlockReader_findFollowers.2.1 118 = .ok (.iinc 3 1, 3) := by decide +kernel
theorem d_BlockReader_findFollowers_121 : decode M_BlockReader_findFollowers.2.1 121 = .ok (.goto (-43), 3) := by decide +kernel
theorem d_BlockReader_findFollowers_124 : decode M_BlockReader_findFollowers.2.1 124 = .ok (.return_, 1) := by decide +kernel
theorem d_BlockReader_lengthen_0 : decode M_BlockReader_lengthen.2.1 0 = .ok (.iconst 0, 1) := by decide +kernel
theorem d_BlockReader_lengthen_1 : decode M_BlockReader_lengthen.2.1 1 = .ok (.istore_n 2, 1) := by decide +kernel
theorem d_BlockReader_lengthen_2 : decode M_BlockReader_lengthen.2.1 2 = .ok (.aload_n 1, 1) := by decide +kernel
theorem d_BlockReader_lengthen_3 : decode M_BlockReader_lengthen.2.1 3 = .ok (.getfield 47, 3) := by decide +kernel
theorem d_BlockReader_lengthen_6 : decode M_BlockReader_lengthen.2.1 6 = .ok (.istore_n 3, 1) := by decide +kernel
theorem d_BlockReader_lengthen_7 : decode M_BlockReader_lengthen.2.1 7 = .ok (.iconst 0, 1) := by decide +kernel
theorem d_BlockReader_lengthen_8 : decode M_BlockReader_lengthen.2.1 8 = .ok (.istore 4, 2) := by decide +kernel
theorem d_BlockReader_lengthen_10 : decode M_BlockReader_lengthen.2.1 10 = .ok (.iconst 0, 1) := by decide +kernel
theorem d_BlockReader_lengthen_11 : decode M_BlockReader_lengthen.2.1 11 = .ok (.istore 5, 2) := by decide +kernel
theorem d_BlockReader_lengthen_13 : decode M_BlockReader_lengthen.2.1 13 = .ok (.iload 5, 2) := by decide +kernel
theorem d_BlockReader_lengthen_15 : decode M_BlockReader_lengthen.2.1 15 = .ok (.aload_n 0, 1) := by decide +kernel
theorem d_BlockReader_lengthen_16 : decode M_BlockReader_lengthen.2.1 16 = .ok (.getfield 168, 3) := by decide +kernel
theorem d_BlockReader_lengthen_19 : decode M_BlockReader_lengthen.2.1 19 = .ok (.if_icmp .ge 91, 3) := by decide +kernel
theorem d_BlockReader_lengthen_22 : decode M_BlockReader_lengthen.2.1 22 = .ok (.iconst 1, 1) := by decide +kernel
theorem d_BlockReader_lengthen_23 : decode M_BlockReader_lengthen.2.1 23 = .ok (.istore 6, 2) := by decide +kernel
theorem d_BlockReader_lengthen_25 : decode M_BlockReader_lengthen.2.1 25 = .ok (.iload_n 2, 1) := by decide +kernel
theorem d_BlockReader_lengthen_26 : decode M_BlockReader_lengthen.2.1 26 = .ok (.iconst 4, 1) := by decide +kernel
theorem d_BlockReader_lengthen_27 : decode M_BlockReader_lengthen.2.1 27 = .ok (.if_icmp .ne 17, 3) := by decide +kernel
theorem d_BlockReader_lengthen_30 : decode M_BlockReader_lengthen.2.1 30 = .ok (.aload_n 0, 1) := by decide +kernel
theorem d_BlockReader_lengthen_31 : decode M_BlockReader_lengthen.2.1 31 = .ok (.getfield 197, 3) := by decide +kernel
theorem d_BlockReader_lengthen_34 : decode M_BlockReader_lengthen.2.1 34 = .ok (.iload 5, 2) := by decide +kernel
theorem d_BlockReader_lengthen_36 : decode M_BlockReader_lengthen.2.1 36 = .ok (.iaload, 1) := by decide +kernel
theorem d_BlockReader_lengthen_37 : decode M_BlockReader_lengthen.2.1 37 = .ok (.istore 6, 2) := by decide +kernel
theorem d_BlockReader_lengthen_39 : decode M_BlockReader_lengthen.2.1 39 = .ok (.iconst 0, 1) := by decide +kernel
theorem d_BlockReader_lengthen_40 : decode M_BlockReader_lengthen.2.1 40 = .ok (.istore_n 2, 1) := by decide +kernel
theorem d_BlockReader_lengthen_41 : decode M_BlockReader_lengthen.2.1 41 = .ok (.goto 36, 3) := by decide +kernel
theorem d_BlockReader_lengthen_44 : decode M_BlockReader_lengthen.2.1 44 = .ok (.iload_n 2, 1) := by decide +kernel
theorem d_BlockReader_lengthen_45 : decode M_BlockReader_lengthen.2.1 45 = .ok (.ifCond .le 21, 3) := by decide +kernel
theorem d_BlockReader_lengthen_48 : decode M_BlockReader_lengthen.2.1 48 = .ok (.aload_n 0, 1) := by decide +kernel
theorem d_BlockReader_lengthen_49 : decode M_BlockReader_lengthen.2.1 49 = .ok (.getfield 197, 3) := by decide +kernel
theorem d_BlockReader_lengthen_52 : decode M_BlockReader_lengthen.2.1 52 = .ok (.iload 5, 2) := by decide +kernel
theorem d_BlockReader_lengthen_54 : decode M_BlockReader_lengthen.2.1 54 = .ok (.iaload, 1) := by decide +kernel
theorem d_BlockReader_lengthen_55 : decode M_BlockReader_lengthen.2.1 55 = .ok (.iload 4, 2) := by decide +kernel
theorem d_BlockReader_lengthen_57 : decode M_BlockReader_lengthen.2.1 57 = .ok (.if_icmp .ne 9, 3) := by decide +kernel
theorem d_BlockReader_lengthen_60 : decode M_BlockReader_lengthen.2.1 60 = .ok (.iload_n 2, 1) := by decide +kernel
theorem d_BlockReader_lengthen_61 : decode M_BlockReader_lengthen.2.1 61 = .ok (.iconst 1, 1) := by decide +kernel
theorem d_BlockReader_lengthen_62 : decode M_BlockReader_lengthen.2.1 62 = .ok (.iadd, 1) := by decide +kernel
theorem d_BlockReader_lengthen_63 : decode M_BlockReader_lengthen.2.1 63 = .ok (.goto 4, 3) := by decide +kernel
theorem d_BlockReader_lengthen_66 : decode M_BlockReader_lengthen.2.1 66 = .ok (.iconst 1, 1) := by decide +kernel
theorem d_BlockReader_lengthen_67 : decode M_BlockReader_lengthen.2.1 67 = .ok (.istore_n 2, 1) := by decide +kernel
theorem d_BlockReader_lengthen_68 : decode M_BlockReader_lengthen.2.1 68 = .ok (.aload_n 0, 1) := by decide +kernel
theorem d_BlockReader_lengthen_69 : decode M_BlockReader_lengthen.2.1 69 = .ok (.getfield 197, 3) := by decide +kernel
theorem d_BlockReader_lengthen_72 : decode M_BlockReader_lengthen.2.1 72 = .ok (.iload 5, 2) := by decide +kernel
theorem d_BlockReader_lengthen_74 : decode M_BlockReader_lengthen.2.1 74 = .ok (.iaload, 1) := by decide +kernel
theorem d_BlockReader_lengthen_75 : decode M_BlockReader_lengthen.2.1 75 = .ok (.istore 4, 2) := by decide +kernel
theorem d_BlockReader_lengthen_77 : decode M_BlockReader_lengthen.2.1 77 = .ok (.iload_n 3, 1) := by decide +kernel
theorem d_BlockReader_lengthen_78 : decode M_BlockReader_lengthen.2.1 78 = .ok (.iload 6, 2) := by decide +kernel
theorem d_BlockReader_lengthen_80 : decode M_BlockReader_lengthen.2.1 80 = .ok (.iadd, 1) := by decide +kernel
theorem d_BlockReader_lengthen_81 : decode M_BlockReader_lengthen.2.1 81 = .ok (.istore_n 3, 1) := by decide +kernel
theorem d_BlockReader_lengthen_82 : decode M_BlockReader_lengthen.2.1 82 = .ok (.iconst 0, 1) := by decide +kernel
theorem d_BlockReader_lengthen_83 : decode M_BlockReader_lengthen.2.1 83 = .ok (.istore 7, 2) := by decide +kernel
theorem d_BlockReader_lengthen_85 : decode M_BlockReader_lengthen.2.1 85 = .ok (.iload 7, 2) := by decide +kernel
theorem d_BlockReader_lengthen_87 : decode M_BlockReader_lengthen.2.1 87 = .ok (.iload 6, 2) := by decide +kernel
theorem d_BlockReader_lengthen_89 : decode M_BlockReader_lengthen.2.1 89 = .ok (.if_icmp .ge 15, 3) := by decide +kernel
theorem d_BlockReader_lengthen_92 : decode M_BlockReader_lengthen.2.1 92 = .ok (.aload_n 1, 1) := by decide +kernel
theorem d_BlockReader_lengthen_93 : decode M_BlockReader_lengthen.2.1 93 = .ok (.iload 4, 2) := by decide +kernel
theorem d_BlockReader_lengthen_95 : decode M_BlockReader_lengthen.2.1 95 = .ok (.invokevirtual 208, 3) := by decide +kernel
theorem d_BlockReader_lengthen_98 : decode M_BlockReader_lengthen.2.1 98 = .ok (.iinc 7 1, 3) := by decide +kernel
theorem d_BlockReader_lengthen_101 : decode M_BlockReader_lengthen.2.1 101 = .ok (.goto (-16), 3) := by decide +kernel
theorem d_BlockReader_lengthen_104 : decode M_BlockReader_lengthen.2.1 104 = .ok (.iinc 5 1, 3) := by decide +kernel
theorem d_BlockReader_lengthen_107 : decode M_BlockReader_lengthen.2.1 107 = .ok (.goto (-94), 3) := by decide +kernel
theorem d_BlockReader_lengthen_110 : decode M_BlockReader_lengthen.2.1 110 = .ok (.iload_n 2, 1) := by decide +kernel
theorem d_BlockReader_lengthen_111 : decode M_BlockReader_lengthen.2.1 111 = .ok (.iconst 4, 1) := by decide +kernel
theorem d_BlockReader_lengthen_112 : decode M_BlockReader_lengthen.2.1 112 = .ok (.if_icmp .ne 6, 3) := by decide +kernel
theorem d_BlockReader_lengthen_115 : decode M_BlockReader_lengthen.2.1 115 = .ok (.bipush (-13), 2) := by decide +kernel
theorem d_BlockReader_lengthen_117 : decode M_BlockReader_lengthen.2.1 117 = .ok (.ireturn, 1) := by decide +kernel
theorem d_BlockReader_lengthen_118 : decode M_BlockReader_lengthen.2.1 118 = .ok (.iload_n 3, 1) := by decide +kernel
theorem d_BlockReader_lengthen_119 : decode M_BlockReader_lengthen.2.1 119 = .ok (.aload_n 1, 1) := by decide +kernel
theorem d_BlockReader_lengthen_120 : decode M_BlockReader_lengthen.2.1 120 = .ok (.getfield 211, 3) := by decide +kernel
theorem d_BlockReader_lengthen_123 : decode M_BlockReader_lengthen.2.1 123 = .ok (.arraylength, 1) := by decide +kernel
theorem d_BlockReader_lengthen_124 : decode M_BlockReader_lengthen.2.1 124 = .ok (.if_icmp .le 7, 3) := by decide +kernel
theorem d_BlockReader_lengthen_127 : decode M_BlockReader_lengthen.2.1 127 = .ok (.iconst 1, 1) := by decide +kernel
theorem d_BlockReader_lengthen_128 : decode M_BlockReader_lengthen.2.1 128 = .ok (.goto 4, 3) := by decide +kernel
theorem d_BlockReader_lengthen_131 : decode M_BlockReader_lengthen.2.1 131 = .ok (.iconst 0, 1) := by decide +kernel
theorem d_BlockReader_lengthen_132 : decode M_BlockReader_lengthen.2.1 132 = .ok (.ireturn, 1) := by decide +kernel
theorem d_BlockWriter_init_0 : decode M_BlockWriter_init.2.1 0 = .ok (.aload_n 0, 1) := by decide +kernel
theorem d_BlockWriter_init_1 : decode M_BlockWriter_init.2.1 1 = .ok (.invokespecial 3, 3) := by decide +kernel
theorem d_BlockWriter_init_4 : decode M_BlockWriter_init.2.1 4 = .ok (.aload_n 0, 1) := by decide +kernel
theorem d_BlockWriter_init_5 : decode M_BlockWriter_init.2.1 5 = .ok (.bipush 16, 2) := by decide +kernel
theorem d_BlockWriter_init_7 : decode M_BlockWriter_init.2.1 7 = .ok (.newarray .int, 2) := by decide +kernel
theorem d_BlockWriter_init_9 : decode M_BlockWriter_init.2.1 9 = .ok (.putfield 9, 3) := by decide +kernel
theorem d_BlockWriter_init_12 : decode M_BlockWriter_init.2.1 12 = .ok (.aload_n 0, 1) := by decide +kernel
theorem d_BlockWriter_init_13 : decode M_BlockWriter_init.2.1 13 = .ok (.new 15, 3) := by decide +kernel
theorem d_BlockWriter_init_16 : decode M_BlockWriter_init.2.1 16 = .ok (.dup, 1) := by decide +kernel
theorem d_BlockWriter_init_17 : decode M_BlockWriter_init.2.1 17 = .ok (.invokespecial 17, 3) := by decide +kernel
theorem d_BlockWriter_init_20 : decode M_BlockWriter_init.2.1 20 = .ok (.putfield 18, 3) := by decide +kernel
theorem d_BlockWriter_init_23 : decode M_BlockWriter_init.2.1 23 = .ok (.aload_n 0, 1) := by decide +kernel
theorem d_BlockWriter_init_24 : decode M_BlockWriter_init.2.1 24 = .ok (.iconst 4, 1) := by decide +kernel
theorem d_BlockWriter_init_25 : decode M_BlockWriter_init.2.1 25 = .ok (.anewarray 22, 3) := by decide +kernel
theorem d_BlockWriter_init_28 : decode M_BlockWriter_init.2.1 28 = .ok (.putfield 24, 3) := by decide +kernel
theorem d_BlockWriter_init_31 : decode M_BlockWriter_init.2.1 31 = .ok (.aload_n 0, 1) := by decide +kernel
theorem d_BlockWriter_init_32 : decode M_BlockWriter_init.2.1 32 = .ok (.new 28, 3) := by decide +kernel
theorem d_BlockWriter_init_35 : decode M_BlockWriter_init.2.1 35 = .ok (.dup, 1) := by decide +kernel
theorem d_BlockWriter_init_36 : decode M_BlockWriter_init.2.1 36 = .ok (.aload_n 1, 1) := by decide +kernel
theorem d_BlockWriter_init_37 : decode M_BlockWriter_init.2.1 37 = .ok (.invokespecial 30, 3) := by decide +kernel
theorem d_BlockWriter_init_40 : decode M_BlockWriter_init.2.1 40 = .ok (.putfield 33, 3) := by decide +kernel
theorem d_BlockWriter_init_43 : decode M_BlockWriter_init.2.1 43 = .ok (.iconst 0, 1) := by decide +kernel
theorem d_BlockWriter_init_44 : decode M_BlockWriter_init.2.1 44 = .ok (.istore_n 2, 1) := by decide +kernel
theorem d_BlockWriter_init_45 : decode M_BlockWriter_init.2.1 45 = .ok (.iload_n 2, 1) := by decide +kernel
theorem d_BlockWriter_init_46 : decode M_BlockWriter_init.2.1 46 = .ok (.iconst 4, 1) := by decide +kernel
theorem d_BlockWriter_init_47 : decode M_BlockWriter_init.2.1 47 = .ok (.if_icmp .ge 24, 3) := by decide +kernel
theorem d_BlockWriter_init_50 : decode M_BlockWriter_init.2.1 50 = .ok (.aload_n 0, 1) := by decide +kernel
theorem d_BlockWriter_init_51 : decode M_BlockWriter_init.2.1 51 = .ok (.getfield 24, 3) := by decide +kernel
theorem d_BlockWriter_init_54 : decode M_BlockWriter_init.2.1 54 = .ok (.iload_n 2, 1) := by decide +kernel
theorem d_BlockWriter_init_55 : decode M_BlockWriter_init.2.1 55 = .ok (.new 22, 3) := by decide +kernel
theorem d_BlockWriter_init_58 : decode M_BlockWriter_init.2.1 58 = .ok (.dup, 1) := by decide +kernel
theorem d_BlockWriter_init_59 : decode M_BlockWriter_init.2.1 59 = .ok (.bipush 66, 2) := by decide +kernel
theorem d_BlockWriter_init_61 : decode M_BlockWriter_init.2.1 61 = .ok (.invokespecial 37, 3) := by decide +kernel
theorem d_BlockWriter_init_64 : decode M_BlockWriter_init.2.1 64 = .ok (.aastore, 1) := by decide +kernel
theorem d_BlockWriter_init_65 : decode M_BlockWriter_init.2.1 65 = .ok (.iinc 2 1, 3) := by decide +kernel
theorem d_BlockWriter_init_68 : decode M_BlockWriter_init.2.1 68 = .ok (.goto (-23), 3) := by decide +kernel
theorem d_BlockWriter_init_71 : decode M_BlockWriter_init.2.1 71 = .ok (.return_, 1) := by decide +kernel
theorem d_BlockWriter_writeHead_0 : decode M_BlockWriter_writeHead.2.1 0 = .ok (.aload_n 0, 1) := by decide +kernel
theorem d_BlockWriter_writeHead_1 : decode M_BlockWriter_writeHead.2.1 1 = .ok (.getfield 33, 3) := by decide +kernel
theorem d_BlockWriter_writeHead_4 : decode M_BlockWriter_writeHead.2.1 4 = .ok (.sipush 21314, 3) := by decide +kernel
theorem d_BlockWriter_writeHead_7 : decode M_BlockWriter_writeHead.2.1 7 = .ok (.bipush 16, 2) := by decide +kernel
theorem d_BlockWriter_writeHead_9 : decode M_BlockWriter_writeHead.2.1 9 = .ok (.invokevirtual 40, 3) := by decide +kernel
theorem d_BlockWriter_writeHead_12 : decode M_BlockWriter_writeHead.2.1 12 = .ok (.aload_n 0, 1) := by decide +kernel
theorem d_BlockWriter_writeHead_13 : decode M_BlockWriter_writeHead.2.1 13 = .ok (.getfield 33, 3) := by decide +kernel
theorem d_BlockWriter_writeHead_16 : decode M_BlockWriter_writeHead.2.1 16 = .ok (.iload_n 1, 1) := by decide +kernel
theorem d_BlockWriter_writeHead_17 : decode M_BlockWriter_writeHead.2.1 17 = .ok (.bipush 8, 2) := by decide +kernel
theorem d_BlockWriter_writeHead_19 : decode M_BlockWriter_writeHead.2.1 19 = .ok (.invokevirtual 40, 3) := by decide +kernel
theorem d_BlockWriter_writeHead_22 : decode M_BlockWriter_writeHead.2.1 22 = .ok (.return_, 1) := by decide +kernel
theorem d_BlockWriter_writeEnd_0 : decode M_BlockWriter_writeEnd.2.1 0 = .ok (.aload_n 0, 1) := by decide +kernel
theorem d_BlockWriter_writeEnd_1 : decode M_BlockWriter_writeEnd.2.1 1 = .ok (.getfield 33, 3) := by decide +kernel
theorem d_BlockWriter_writeEnd_4 : decode M_BlockWriter_writeEnd.2.1 4 = .ok (.ldc 44, 2) := by decide +kernel
theorem d_BlockWriter_writeEnd_6 : decode M_BlockWriter_writeEnd.2.1 6 = .ok (.bipush 24, 2) := by decide +kernel
theorem d_BlockWriter_writeEnd_8 : decode M_BlockWriter_writeEnd.2.1 8 = .ok (.invokevirtual 40, 3) := by decide +kernel
theorem d_BlockWriter_writeEnd_11 : decode M_BlockWriter_writeEnd.2.1 11 = .ok (.aload_n 0, 1) := by decide +kernel
theorem d_BlockWriter_writeEnd_12 : decode M_BlockWriter_writeEnd.2.1 12 = .ok (.getfield 33, 3) := by decide +kernel
theorem d_BlockWriter_writeEnd_15 : decode M_BlockWriter_writeEnd.2.1 15 = .ok (.iload_n 1, 1) := by decide +kernel
theorem d_BlockWriter_writeEnd_16 : decode M_BlockWriter_writeEnd.2.1 16 = .ok (.bipush 16, 2) := by decide +kernel
theorem d_BlockWriter_writeEnd_18 : decode M_BlockWriter_writeEnd.2.1 18 = .ok (.invokevirtual 40, 3) := by decide +kernel
theorem d_BlockWriter_writeEnd_21 : decode M_BlockWriter_writeEnd.2.1 21 = .ok (.aload_n 0, 1) := by decide +kernel
theorem d_BlockWriter_writeEnd_22 : decode M_BlockWriter_writeEnd.2.1 22 = .ok (.getfield 33, 3) := by decide +kernel
theorem d_BlockWriter_writeEnd_25 : decode M_BlockWriter_writeEnd.2.1 25 = .ok (.invokevirtual 45, 3) := by decide +kernel
theorem d_BlockWriter_writeEnd_28 : decode M_BlockWriter_writeEnd.2.1 28 = .ok (.return_, 1) := by decide +kernel
theorem d_BlockWriter_writeBlock_0 : decode M_BlockWriter_writeBlock.2.1 0 = .ok (.aload_n 0, 1) := by decide +kernel
theorem d_BlockWriter_writeBlock_1 : decode M_BlockWriter_writeBlock.2.1 1 = .ok (.getfield 33, 3) := by decide +kernel
theorem d_BlockWriter_writeBlock_4 : decode M_BlockWriter_writeBlock.2.1 4 = .ok (.ldc 48, 2) := by decide +kernel
theorem d_BlockWriter_writeBlock_6 : decode M_BlockWriter_writeBlock.2.1 6 = .ok (.bipush 24, 2) := by decide +kernel
theorem d_BlockWriter_writeBlock_8 : decode M_BlockWriter_writeBlock.2.1 8 = .ok (.invokevirtual 40, 3) := by decide +kernel
theorem d_BlockWriter_writeBlock_11 : decode M_BlockWriter_writeBlock.2.1 11 = .ok (.aload_n 0, 1) := by decide +kernel
theorem d_BlockWriter_writeBlock_12 : decode M_BlockWriter_writeBlock.2.1 12 = .ok (.getfield 33, 3) := by decide +kernel
theorem d_BlockWriter_writeBlock_15 : decode M_BlockWriter_writeBlock.2.1 15 = .ok (.aload_n 1, 1) := by decide +kernel
theorem d_BlockWriter_writeBlock_16 : decode M_BlockWriter_writeBlock.2.1 16 = .ok (.getfield 49, 3) := by decide +kernel
theorem d_BlockWriter_writeBlock_19 : decode M_BlockWriter_writeBlock.2.1 19 = .ok (.bipush 16, 2) := by decide +kernel
theorem d_BlockWriter_writeBlock_21 : decode M_BlockWriter_writeBlock.2.1 21 = .ok (.invokevirtual 40, 3) := by decide +kernel
theorem d_BlockWriter_writeBlock_24 : decode M_BlockWriter_writeBlock.2.1 24 = .ok (.aload_n 0, 1) := by decide +kernel
theorem d_BlockWriter_writeBlock_25 : decode M_BlockWriter_writeBlock.2.1 25 = .ok (.getfield 33, 3) := by decide +kernel
theorem d_BlockWriter_writeBlock_28 : decode M_BlockWriter_writeBlock.2.1 28 = .ok (.aload_n 1, 1) := by decide +kernel
theorem d_BlockWriter_writeBlock_29 : decode M_BlockWriter_writeBlock.2.1 29 = .ok (.getfield 55, 3) := by decide +kernel
theorem d_BlockWriter_writeBlock_32 : decode M_BlockWriter_writeBlock.2.1 32 = .ok (.bipush 6, 2) := by decide +kernel
theorem d_BlockWriter_writeBlock_34 : decode M_BlockWriter_writeBlock.2.1 34 = .ok (.invokevirtual 40, 3) := by decide +kernel
theorem d_BlockWriter_writeBlock_37 : decode M_BlockWriter_writeBlock.2.1 37 = .ok (.aload_n 0, 1) := by decide +kernel
theorem d_BlockWriter_writeBlock_38 : decode M_BlockWriter_writeBlock.2.1 38 = .ok (.aload_n 1, 1) := by decide +kernel
theorem d_BlockWriter_writeBlock_39 : decode M_BlockWriter_writeBlock.2.1 39 = .ok (.invokevirtual 58, 3) := by decide +kernel
theorem d_BlockWriter_writeBlock_42 : decode M_BlockWriter_writeBlock.2.1 42 = .ok (.aload_n 0, 1) := by decide +kernel
theorem d_BlockWriter_writeBlock_43 : decode M_BlockWriter_writeBlock.2.1 43 = .ok (.getfield 33, 3) := by decide +kernel
theorem d_BlockWriter_writeBlock_46 : decode M_BlockWriter_writeBlock.2.1 46 = .ok (.aload_n 1, 1) := by decide +kernel
theorem d_BlockWriter_writeBlock_47 : decode M_BlockWriter_writeBlock.2.1 47 = .ok (.getfield 62, 3) := by decide +kernel
theorem d_BlockWriter_writeBlock_50 : decode M_BlockWriter_writeBlock.2.1 50 = .ok (.iconst 3, 1) := by decide +kernel
theorem d_BlockWriter_writeBlock_51 : decode M_BlockWriter_writeBlock.2.1 51 = .ok (.invokevirtual 40, 3) := by decide +kernel
theorem d_BlockWriter_writeBlock_54 : decode M_BlockWriter_writeBlock.2.1 54 = .ok (.aload_n 0, 1) := by decide +kernel
theorem d_BlockWriter_writeBlock_55 : decode M_BlockWriter_writeBlock.2.1 55 = .ok (.getfield 33, 3) := by decide +kernel
theorem d_BlockWriter_writeBlock_58 : decode M_BlockWriter_writeBlock.2.1 58 = .ok (.aload_n 1, 1) := by decide +kernel
theorem d_BlockWriter_writeBlock_59 : decode M_BlockWriter_writeBlock.2.1 59 = .ok (.getfield 65, 3) := by decide +kernel
theorem d_BlockWriter_writeBlock_62 : decode M_BlockWriter_writeBlock.2.1 62 = .ok (.bipush 6, 2) := by decide +kernel
theorem d_BlockWriter_writeBlock_64 : decode M_BlockWriter_writeBlock.2.1 64 = .ok (.invokevirtual 40, 3) := by decide +kernel
theorem d_BlockWriter_writeBlock_67 : decode M_BlockWriter_writeBlock.2.1 67 = .ok (.aload_n 0, 1) := by decide +kernel
theorem d_BlockWriter_writeBlock_68 : decode M_BlockWriter_writeBlock.2.1 68 = .ok (.aload_n 1, 1) := by decide +kernel
theorem d_BlockWriter_writeBlock_69 : decode M_BlockWriter_writeBlock.2.1 69 = .ok (.invokevirtual 68, 3) := by decide +kernel
theorem d_BlockWriter_writeBlock_72 : decode M_BlockWriter_writeBlock.2.1 72 = .ok (.iconst 0, 1) := by decide +kernel
theorem d_BlockWriter_writeBlock_73 : decode M_BlockWriter_writeBlock.2.1 73 = .ok (.istore_n 2, 1) := by decide +kernel
theorem d_BlockWriter_writeBlock_74 : decode M_BlockWriter_writeBlock.2.1 74 = .ok (.iload_n 2, 1) := by decide +kernel
theorem d_BlockWriter_writeBlock_75 : decode M_BlockWriter_writeBlock.2.1 75 = .ok (.aload_n 1, 1) := by decide +kernel
theorem d_BlockWriter_writeBlock_76 : decode M_BlockWriter_writeBlock.2.1 76 = .ok (.getfield 62, 3) := by decide +kernel
theorem d_BlockWriter_writeBlock_79 : decode M_BlockWriter_writeBlock.2.1 79 = .ok (.if_icmp .ge 42, 3) := by decide +kernel
theorem d_BlockWriter_writeBlock_82 : decode M_BlockWriter_writeBlock.2.1 82 = .ok (.aload_n 0, 1) := by decide +kernel
theorem d_BlockWriter_writeBlock_83 : decode M_BlockWriter_writeBlock.2.1 83 = .ok (.aload_n 1, 1) := by decide +kernel
theorem d_BlockWriter_writeBlock_84 : decode M_BlockWriter_writeBlock.2.1 84 = .ok (.getfield 71, 3) := by decide +kernel
theorem d_BlockWriter_writeBlock_87 : decode M_BlockWriter_writeBlock.2.1 87 = .ok (.iload_n 2, 1) := by decide +kernel
theorem d_BlockWriter_writeBlock_88 : decode M_BlockWriter_writeBlock.2.1 88 = .ok (.aaload, 1) := by decide +kernel
theorem d_BlockWriter_writeBlock_89 : decode M_BlockWriter_writeBlock.2.1 89 = .ok (.aload_n 1, 1) := by decide +kernel
theorem d_BlockWriter_writeBlock_90 : decode M_BlockWriter_writeBlock.2.1 90 = .ok (.invokevirtual 75, 3) := by decide +kernel
theorem d_BlockWriter_writeBlock_93 : decode M_BlockWriter_writeBlock.2.1 93 = .ok (.invokevirtual 79, 3) := by decide +kernel
theorem d_BlockWriter_writeBlock_96 : decode M_BlockWriter_writeBlock.2.1 96 = .ok (.aload_n 0, 1) := by decide +kernel
theorem d_BlockWriter_writeBlock_97 : decode M_BlockWriter_writeBlock.2.1 97 = .ok (.getfield 24, 3) := by decide +kernel
theorem d_BlockWriter_writeBlock_100 : decode M_BlockWriter_writeBlock.2.1 100 = .ok (.iload_n 2, 1) := by decide +kernel
theorem d_BlockWriter_writeBlock_101 : decode M_BlockWriter_writeBlock.2.1 101 = .ok (.aaload, 1) := by decide +kernel
theorem d_BlockWriter_writeBlock_102 : decode M_BlockWriter_writeBlock.2.1 102 = .ok (.aload_n 1, 1) := by decide +kernel
theorem d_BlockWriter_writeBlock_103 : decode M_BlockWriter_writeBlock.2.1 103 = .ok (.getfield 71, 3) := by decide +kernel
theorem d_BlockWriter_writeBlock_106 : decode M_BlockWriter_writeBlock.2.1 106 = .ok (.iload_n 2, 1) := by decide +kernel
theorem d_BlockWriter_writeBlock_107 : decode M_BlockWriter_writeBlock.2.1 107 = .ok (.aaload, 1) := by decide +kernel
theorem d_BlockWriter_writeBlock_108 : decode M_BlockWriter_writeBlock.2.1 108 = .ok (.aload_n 1, 1) := by decide +kernel
theorem d_BlockWriter_writeBlock_109 : decode M_BlockWriter_writeBlock.2.1 109 = .ok (.invokevirtual 75, 3) := by decide +kernel
theorem d_BlockWriter_writeBlock_112 : decode M_BlockWriter_writeBlock.2.1 112 = .ok (.invokevirtual 83, 3) := by decide +kernel
theorem d_BlockWriter_writeBlock_115 : decode M_BlockWriter_writeBlock.2.1 115 = .ok (.iinc 2 1, 3) := by decide +kernel
theorem d_BlockWriter_writeBlock_118 : decode M_BlockWriter_writeBlock.2.1 118 = .ok (.goto (-44), 3) := by decide +kernel
theorem d_BlockWriter_writeBlock_121 : decode M_BlockWriter_writeBlock.2.1 121 = .ok (.aload_n 0, 1) := by decide +kernel
theorem d_BlockWriter_writeBlock_122 : decode M_BlockWriter_writeBlock.2.1 122 = .ok (.aload_n 1, 1) := by decide +kernel
theorem d_BlockWriter_writeBlock_123 : decode M_BlockWriter_writeBlock.2.1 123 = .ok (.invokevirtual 86, 3) := by decide +kernel
theorem d_BlockWriter_writeBlock_126 : decode M_BlockWriter_writeBlock.2.1 126 = .ok (.return_, 1) := by decide +kernel
theorem d_BlockWriter_writeMap_0 : decode M_BlockWriter_writeMap.2.1 0 = .ok (.aload_n 0, 1) := by decide +kernel
theorem d_BlockWriter_writeMap_1 : decode M_BlockWriter_writeMap.2.1 1 = .ok (.getfield 9, 3) := by decide +kernel
theorem d_BlockWriter_writeMap_4 : decode M_BlockWriter_writeMap.2.1 4 = .ok (.iconst 0, 1) := by decide +kernel
theorem d_BlockWriter_writeMap_5 : decode M_BlockWriter_writeMap.2.1 5 = .ok (.invokestatic 89, 3) := by decide +kernel
theorem d_BlockWriter_writeMap_8 : decode M_BlockWriter_writeMap.2.1 8 = .ok (.iconst 0, 1) := by decide +kernel
theorem d_BlockWriter_writeMap_9 : decode M_BlockWriter_writeMap.2.1 9 = .ok (.istore_n 2, 1) := by decide +kernel
theorem d_BlockWriter_writeMap_10 : decode M_BlockWriter_writeMap.2.1 10 = .ok (.iconst 0, 1) := by decide +kernel
theorem d_BlockWriter_writeMap_11 : decode M_BlockWriter_writeMap.2.1 11 = .ok (.istore_n 3, 1) := by decide +kernel
theorem d_BlockWriter_writeMap_12 : decode M_BlockWriter_writeMap.2.1 12 = .ok (.iload_n 3, 1) := by decide +kernel
theorem d_BlockWriter_writeMap_13 : decode M_BlockWriter_writeMap.2.1 13 = .ok (.aload_n 1, 1) := by decide +kernel
theorem d_BlockWriter_writeMap_14 : decode M_BlockWriter_writeMap.2.1 14 = .ok (.getfield 94, 3) := by decide +kernel
theorem d_BlockWriter_writeMap_17 : decode M_BlockWriter_writeMap.2.1 17 = .ok (.if_icmp .ge 49, 3) := by decide +kernel
theorem d_BlockWriter_writeMap_20 : decode M_BlockWriter_writeMap.2.1 20 = .ok (.aload_n 1, 1) := by decide +kernel
theorem d_BlockWriter_writeMap_21 : decode M_BlockWriter_writeMap.2.1 21 = .ok (.getfield 97, 3) := by decide +kernel
theorem d_BlockWriter_writeMap_24 : decode M_BlockWriter_writeMap.2.1 24 = .ok (.iload_n 3, 1) := by decide +kernel
theorem d_BlockWriter_writeMap_25 : decode M_BlockWriter_writeMap.2.1 25 = .ok (.iaload, 1) := by decide +kernel
theorem d_BlockWriter_writeMap_26 : decode M_BlockWriter_writeMap.2.1 26 = .ok (.istore 4, 2) := by decide +kernel
theorem d_BlockWriter_writeMap_28 : decode M_BlockWriter_writeMap.2.1 28 = .ok (.iload_n 2, 1) := by decide +kernel
theorem d_BlockWriter_writeMap_29 : decode M_BlockWriter_writeMap.2.1 29 = .ok (.iload 4, 2) := by decide +kernel
theorem d_BlockWriter_writeMap_31 : decode M_BlockWriter_writeMap.2.1 31 = .ok (.bipush 16, 2) := by decide +kernel
theorem d_BlockWriter_writeMap_33 : decode M_BlockWriter_writeMap.2.1 33 = .ok (.idiv, 1) := by decide +kernel
theorem d_BlockWriter_writeMap_34 : decode M_BlockWriter_writeMap.2.1 34 = .ok (.invokestatic 100, 3) := by decide +kernel
theorem d_BlockWriter_writeMap_37 : decode M_BlockWriter_writeMap.2.1 37 = .ok (.ior, 1) := by decide +kernel
theorem d_BlockWriter_writeMap_38 : decode M_BlockWriter_writeMap.2.1 38 = .ok (.istore_n 2, 1) := by decide +kernel
theorem d_BlockWriter_writeMap_39 : decode M_BlockWriter_writeMap.2.1 39 = .ok (.aload_n 0, 1) := by decide +kernel
theorem d_BlockWriter_writeMap_40 : decode M_BlockWriter_writeMap.2.1 40 = .ok (.getfield 9, 3) := by decide +kernel
theorem d_BlockWriter_writeMap_43 : decode M_BlockWriter_writeMap.2.1 43 = .ok (.iload 4, 2) := by decide +kernel
end
section
theorem d_BlockWriter_writeMap_45 : decode M_BlockWriter_writeMap.2.1 45 = .ok (.bipush 16, 2) := by decide +kernel
theorem d_BlockWriter_writeMap_47 : decode M_BlockWriter_writeMap.2.1 47 = .ok (.idiv, 1) := by decide +kernel
theorem d_BlockWriter_writeMap_48 : decode M_BlockWriter_writeMap.2.1 48 = .ok (.dup2, 1) := by decide +kernel
theorem d_BlockWriter_writeMap_49 : decode M_BlockWriter_writeMap.2.1 49 = .ok (.iaload, 1) := by decide +kernel
theorem d_BlockWriter_writeMap_50 : decode M_BlockWriter_writeMap.2.1 50 = .ok (.iload 4, 2) := by decide +kernel
theorem d_BlockWriter_writeMap_52 : decode M_BlockWriter_writeMap.2.1 52 = .ok (.bipush 16, 2) := by decide +kernel
theorem d_BlockWriter_writeMap_54 : decode M_BlockWriter_writeMap.2.1 54 = .ok (.irem, 1) := by decide +kernel
theorem d_BlockWriter_writeMap_55 : decode M_BlockWriter_writeMap.2.1 55 = .ok (.invokestatic 100, 3) := by decide +kernel
theorem d_BlockWriter_writeMap_58 : decode M_BlockWriter_writeMap.2.1 58 = .ok (.ior, 1) := by decide +kernel
theorem d_BlockWriter_writeMap_59 : decode M_BlockWriter_writeMap.2.1 59 = .ok (.iastore, 1) := by decide +kernel
theorem d_BlockWriter_writeMap_60 : decode M_BlockWriter_writeMap.2.1 60 = .ok (.iinc 3 1, 3) := by decide +kernel
theorem d_BlockWriter_writeMap_63 : decode M_BlockWriter_writeMap.2.1 63 = .ok (.goto (-51), 3) := by decide +kernel
theorem d_BlockWriter_writeMap_66 : decode M_BlockWriter_writeMap.2.1 66 = .ok (.aload_n 0, 1) := by decide +kernel
theorem d_BlockWriter_writeMap_67 : decode M_BlockWriter_writeMap.2.1 67 = .ok (.getfield 33, 3) := by decide +kernel
theorem d_BlockWriter_writeMap_70 : decode M_BlockWriter_writeMap.2.1 70 = .ok (.iload_n 2, 1) := by decide +kernel
theorem d_BlockWriter_writeMap_71 : decode M_BlockWriter_writeMap.2.1 71 = .ok (.bipush 16, 2) := by decide +kernel
theorem d_BlockWriter_writeMap_73 : decode M_BlockWriter_writeMap.2.1 73 = .ok (.invokevirtual 40, 3) := by decide +kernel
theorem d_BlockWriter_writeMap_76 : decode M_BlockWriter_writeMap.2.1 76 = .ok (.iconst 0, 1) := by decide +kernel
theorem d_BlockWriter_writeMap_77 : decode M_BlockWriter_writeMap.2.1 77 = .ok (.istore_n 3, 1) := by decide +kernel
theorem d_BlockWriter_writeMap_78 : decode M_BlockWriter_writeMap.2.1 78 = .ok (.iload_n 3, 1) := by decide +kernel
theorem d_BlockWriter_writeMap_79 : decode M_BlockWriter_writeMap.2.1 79 = .ok (.aload_n 0, 1) := by decide +kernel
theorem d_BlockWriter_writeMap_80 : decode M_BlockWriter_writeMap.2.1 80 = .ok (.getfield 9, 3) := by decide +kernel
theorem d_BlockWriter_writeMap_83 : decode M_BlockWriter_writeMap.2.1 83 = .ok (.arraylength, 1) := by decide +kernel
theorem d_BlockWriter_writeMap_84 : decode M_BlockWriter_writeMap.2.1 84 = .ok (.if_icmp .ge 33, 3) := by decide +kernel
theorem d_BlockWriter_writeMap_87 : decode M_BlockWriter_writeMap.2.1 87 = .ok (.aload_n 0, 1) := by decide +kernel
theorem d_BlockWriter_writeMap_88 : decode M_BlockWriter_writeMap.2.1 88 = .ok (.getfield 9, 3) := by decide +kernel
theorem d_BlockWriter_writeMap_91 : decode M_BlockWriter_writeMap.2.1 91 = .ok (.iload_n 3, 1) := by decide +kernel
theorem d_BlockWriter_writeMap_92 : decode M_BlockWriter_writeMap.2.1 92 = .ok (.iaload, 1) := by decide +kernel
theorem d_BlockWriter_writeMap_93 : decode M_BlockWriter_writeMap.2.1 93 = .ok (.ifCond .eq 18, 3) := by decide +kernel
theorem d_BlockWriter_writeMap_96 : decode M_BlockWriter_writeMap.2.1 96 = .ok (.aload_n 0, 1) := by decide +kernel
theorem d_BlockWriter_writeMap_97 : decode M_BlockWriter_writeMap.2.1 97 = .ok (.getfield 33, 3) := by decide +kernel
theorem d_BlockWriter_writeMap_100 : decode M_BlockWriter_writeMap.2.1 100 = .ok (.aload_n 0, 1) := by decide +kernel
theorem d_BlockWriter_writeMap_101 : decode M_BlockWriter_writeMap.2.1 101 = .ok (.getfield 9, 3) := by decide +kernel
theorem d_BlockWriter_writeMap_104 : decode M_BlockWriter_writeMap.2.1 104 = .ok (.iload_n 3, 1) := by decide +kernel
theorem d_BlockWriter_writeMap_105 : decode M_BlockWriter_writeMap.2.1 105 = .ok (.iaload, 1) := by decide +kernel
theorem d_BlockWriter_writeMap_106 : decode M_BlockWriter_writeMap.2.1 106 = .ok (.bipush 16, 2) := by decide +kernel
theorem d_BlockWriter_writeMap_108 : decode M_BlockWriter_writeMap.2.1 108 = .ok (.invokevirtual 40, 3) := by decide +kernel
theorem d_BlockWriter_writeMap_111 : decode M_BlockWriter_writeMap.2.1 111 = .ok (.iinc 3 1, 3) := by decide +kernel
theorem d_BlockWriter_writeMap_114 : decode M_BlockWriter_writeMap.2.1 114 = .ok (.goto (-36), 3) := by decide +kernel
theorem d_BlockWriter_writeMap_117 : decode M_BlockWriter_writeMap.2.1 117 = .ok (.return_, 1) := by decide +kernel
theorem d_BlockWriter_writePicks_0 : decode M_BlockWriter_writePicks.2.1 0 = .ok (.aload_n 0, 1) := by decide +kernel
theorem d_BlockWriter_writePicks_1 : decode M_BlockWriter_writePicks.2.1 1 = .ok (.getfield 18, 3) := by decide +kernel
theorem d_BlockWriter_writePicks_4 : decode M_BlockWriter_writePicks.2.1 4 = .ok (.aload_n 1, 1) := by decide +kernel
theorem d_BlockWriter_writePicks_5 : decode M_BlockWriter_writePicks.2.1 5 = .ok (.getfield 62, 3) := by decide +kernel
theorem d_BlockWriter_writePicks_8 : decode M_BlockWriter_writePicks.2.1 8 = .ok (.invokevirtual 104, 3) := by decide +kernel
theorem d_BlockWriter_writePicks_11 : decode M_BlockWriter_writePicks.2.1 11 = .ok (.iconst 0, 1) := by decide +kernel
theorem d_BlockWriter_writePicks_12 : decode M_BlockWriter_writePicks.2.1 12 = .ok (.istore_n 2, 1) := by decide +kernel
theorem d_BlockWriter_writePicks_13 : decode M_BlockWriter_writePicks.2.1 13 = .ok (.iload_n 2, 1) := by decide +kernel
theorem d_BlockWriter_writePicks_14 : decode M_BlockWriter_writePicks.2.1 14 = .ok (.aload_n 1, 1) := by decide +kernel
theorem d_BlockWriter_writePicks_15 : decode M_BlockWriter_writePicks.2.1 15 = .ok (.getfield 65, 3) := by decide +kernel
theorem d_BlockWriter_writePicks_18 : decode M_BlockWriter_writePicks.2.1 18 = .ok (.if_icmp .ge 56, 3) := by decide +kernel
theorem d_BlockWriter_writePicks_21 : decode M_BlockWriter_writePicks.2.1 21 = .ok (.aload_n 0, 1) := by decide +kernel
theorem d_BlockWriter_writePicks_22 : decode M_BlockWriter_writePicks.2.1 22 = .ok (.getfield 18, 3) := by decide +kernel
theorem d_BlockWriter_writePicks_25 : decode M_BlockWriter_writePicks.2.1 25 = .ok (.aload_n 1, 1) := by decide +kernel
theorem d_BlockWriter_writePicks_26 : decode M_BlockWriter_writePicks.2.1 26 = .ok (.getfield 107, 3) := by decide +kernel
theorem d_BlockWriter_writePicks_29 : decode M_BlockWriter_writePicks.2.1 29 = .ok (.iload_n 2, 1) := by decide +kernel
theorem d_BlockWriter_writePicks_30 : decode M_BlockWriter_writePicks.2.1 30 = .ok (.iaload, 1) := by decide +kernel
theorem d_BlockWriter_writePicks_31 : decode M_BlockWriter_writePicks.2.1 31 = .ok (.invokevirtual 110, 3) := by decide +kernel
theorem d_BlockWriter_writePicks_34 : decode M_BlockWriter_writePicks.2.1 34 = .ok (.istore_n 3, 1) := by decide +kernel
theorem d_BlockWriter_writePicks_35 : decode M_BlockWriter_writePicks.2.1 35 = .ok (.iconst 0, 1) := by decide +kernel
theorem d_BlockWriter_writePicks_36 : decode M_BlockWriter_writePicks.2.1 36 = .ok (.istore 4, 2) := by decide +kernel
theorem d_BlockWriter_writePicks_38 : decode M_BlockWriter_writePicks.2.1 38 = .ok (.iload 4, 2) := by decide +kernel
theorem d_BlockWriter_writePicks_40 : decode M_BlockWriter_writePicks.2.1 40 = .ok (.iload_n 3, 1) := by decide +kernel
theorem d_BlockWriter_writePicks_41 : decode M_BlockWriter_writePicks.2.1 41 = .ok (.if_icmp .ge 18, 3) := by decide +kernel
theorem d_BlockWriter_writePicks_44 : decode M_BlockWriter_writePicks.2.1 44 = .ok (.aload_n 0, 1) := by decide +kernel
theorem d_BlockWriter_writePicks_45 : decode M_BlockWriter_writePicks.2.1 45 = .ok (.getfield 33, 3) := by decide +kernel
theorem d_BlockWriter_writePicks_48 : decode M_BlockWriter_writePicks.2.1 48 = .ok (.iconst 1, 1) := by decide +kernel
theorem d_BlockWriter_writePicks_49 : decode M_BlockWriter_writePicks.2.1 49 = .ok (.iconst 1, 1) := by decide +kernel
theorem d_BlockWriter_writePicks_50 : decode M_BlockWriter_writePicks.2.1 50 = .ok (.invokevirtual 40, 3) := by decide +kernel
theorem d_BlockWriter_writePicks_53 : decode M_BlockWriter_writePicks.2.1 53 = .ok (.iinc 4 1, 3) := by decide +kernel
theorem d_BlockWriter_writePicks_56 : decode M_BlockWriter_writePicks.2.1 56 = .ok (.goto (-18), 3) := by decide +kernel
theorem d_BlockWriter_writePicks_59 : decode M_BlockWriter_writePicks.2.1 59 = .ok (.aload_n 0, 1) := by decide +kernel
theorem d_BlockWriter_writePicks_60 : decode M_BlockWriter_writePicks.2.1 60 = .ok (.getfield 33, 3) := by decide +kernel
theorem d_BlockWriter_writePicks_63 : decode M_BlockWriter_writePicks.2.1 63 = .ok (.iconst 0, 1) := by decide +kernel
theorem d_BlockWriter_writePicks_64 : decode M_BlockWriter_writePicks.2.1 64 = .ok (.iconst 1, 1) := by decide +kernel
theorem d_BlockWriter_writePicks_65 : decode M_BlockWriter_writePicks.2.1 65 = .ok (.invokevirtual 40, 3) := by decide +kernel
theorem d_BlockWriter_writePicks_68 : decode M_BlockWriter_writePicks.2.1 68 = .ok (.iinc 2 1, 3) := by decide +kernel
theorem d_BlockWriter_writePicks_71 : decode M_BlockWriter_writePicks.2.1 71 = .ok (.goto (-58), 3) := by decide +kernel
theorem d_BlockWriter_writePicks_74 : decode M_BlockWriter_writePicks.2.1 74 = .ok (.return_, 1) := by decide +kernel
theorem d_BlockWriter_writeLengths_0 : decode M_BlockWriter_writeLengths.2.1 0 = .ok (.aload_n 1, 1) := by decide +kernel
theorem d_BlockWriter_writeLengths_1 : decode M_BlockWriter_writeLengths.2.1 1 = .ok (.iconst 0, 1) := by decide +kernel
theorem d_BlockWriter_writeLengths_2 : decode M_BlockWriter_writeLengths.2.1 2 = .ok (.iaload, 1) := by decide +kernel
theorem d_BlockWriter_writeLengths_3 : decode M_BlockWriter_writeLengths.2.1 3 = .ok (.istore_n 3, 1) := by decide +kernel
theorem d_BlockWriter_writeLengths_4 : decode M_BlockWriter_writeLengths.2.1 4 = .ok (.aload_n 0, 1) := by decide +kernel
theorem d_BlockWriter_writeLengths_5 : decode M_BlockWriter_writeLengths.2.1 5 = .ok (.getfield 33, 3) := by decide +kernel
theorem d_BlockWriter_writeLengths_8 : decode M_BlockWriter_writeLengths.2.1 8 = .ok (.iload_n 3, 1) := by decide +kernel
theorem d_BlockWriter_writeLengths_9 : decode M_BlockWriter_writeLengths.2.1 9 = .ok (.iconst 5, 1) := by decide +kernel
theorem d_BlockWriter_writeLengths_10 : decode M_BlockWriter_writeLengths.2.1 10 = .ok (.invokevirtual 40, 3) := by decide +kernel
theorem d_BlockWriter_writeLengths_13 : decode M_BlockWriter_writeLengths.2.1 13 = .ok (.iconst 0, 1) := by decide +kernel
theorem d_BlockWriter_writeLengths_14 : decode M_BlockWriter_writeLengths.2.1 14 = .ok (.istore 4, 2) := by decide +kernel
theorem d_BlockWriter_writeLengths_16 : decode M_BlockWriter_writeLengths.2.1 16 = .ok (.iload 4, 2) := by decide +kernel
theorem d_BlockWriter_writeLengths_18 : decode M_BlockWriter_writeLengths.2.1 18 = .ok (.iload_n 2, 1) := by decide +kernel
theorem d_BlockWriter_writeLengths_19 : decode M_BlockWriter_writeLengths.2.1 19 = .ok (.if_icmp .ge 70, 3) := by decide +kernel
theorem d_BlockWriter_writeLengths_22 : decode M_BlockWriter_writeLengths.2.1 22 = .ok (.aload_n 1, 1) := by decide +kernel
theorem d_BlockWriter_writeLengths_23 : decode M_BlockWriter_writeLengths.2.1 23 = .ok (.iload 4, 2) := by decide +kernel
theorem d_BlockWriter_writeLengths_25 : decode M_BlockWriter_writeLengths.2.1 25 = .ok (.iaload, 1) := by decide +kernel
theorem d_BlockWriter_writeLengths_26 : decode M_BlockWriter_writeLengths.2.1 26 = .ok (.iload_n 3, 1) := by decide +kernel
theorem d_BlockWriter_writeLengths_27 : decode M_BlockWriter_writeLengths.2.1 27 = .ok (.if_icmp .le 7, 3) := by decide +kernel
theorem d_BlockWriter_writeLengths_30 : decode M_BlockWriter_writeLengths.2.1 30 = .ok (.iconst 2, 1) := by decide +kernel
theorem d_BlockWriter_writeLengths_31 : decode M_BlockWriter_writeLengths.2.1 31 = .ok (.goto 4, 3) := by decide +kernel
theorem d_BlockWriter_writeLengths_34 : decode M_BlockWriter_writeLengths.2.1 34 = .ok (.iconst 3, 1) := by decide +kernel
theorem d_BlockWriter_writeLengths_35 : decode M_BlockWriter_writeLengths.2.1 35 = .ok (.istore 5, 2) := by decide +kernel
theorem d_BlockWriter_writeLengths_37 : decode M_BlockWriter_writeLengths.2.1 37 = .ok (.aload_n 1, 1) := by decide +kernel
theorem d_BlockWriter_writeLengths_38 : decode M_BlockWriter_writeLengths.2.1 38 = .ok (.iload 4, 2) := by decide +kernel
theorem d_BlockWriter_writeLengths_40 : decode M_BlockWriter_writeLengths.2.1 40 = .ok (.iaload, 1) := by decide +kernel
theorem d_BlockWriter_writeLengths_41 : decode M_BlockWriter_writeLengths.2.1 41 = .ok (.iload_n 3, 1) := by decide +kernel
theorem d_BlockWriter_writeLengths_42 : decode M_BlockWriter_writeLengths.2.1 42 = .ok (.isub, 1) := by decide +kernel
theorem d_BlockWriter_writeLengths_43 : decode M_BlockWriter_writeLengths.2.1 43 = .ok (.invokestatic 113, 3) := by decide +kernel
theorem d_BlockWriter_writeLengths_46 : decode M_BlockWriter_writeLengths.2.1 46 = .ok (.istore 6, 2) := by decide +kernel
theorem d_BlockWriter_writeLengths_48 : decode M_BlockWriter_writeLengths.2.1 48 = .ok (.iload 6, 2) := by decide +kernel
theorem d_BlockWriter_writeLengths_50 : decode M_BlockWriter_writeLengths.2.1 50 = .ok (.ifCond .le 19, 3) := by decide +kernel
theorem d_BlockWriter_writeLengths_53 : decode M_BlockWriter_writeLengths.2.1 53 = .ok (.aload_n 0, 1) := by decide +kernel
theorem d_BlockWriter_writeLengths_54 : decode M_BlockWriter_writeLengths.2.1 54 = .ok (.getfield 33, 3) := by decide +kernel
theorem d_BlockWriter_writeLengths_57 : decode M_BlockWriter_writeLengths.2.1 57 = .ok (.iload 5, 2) := by decide +kernel
theorem d_BlockWriter_writeLengths_59 : decode M_BlockWriter_writeLengths.2.1 59 = .ok (.iconst 2, 1) := by decide +kernel
theorem d_BlockWriter_writeLengths_60 : decode M_BlockWriter_writeLengths.2.1 60 = .ok (.invokevirtual 40, 3) := by decide +kernel
theorem d_BlockWriter_writeLengths_63 : decode M_BlockWriter_writeLengths.2.1 63 = .ok (.iinc 6 (-1), 3) := by decide +kernel
theorem d_BlockWriter_writeLengths_66 : decode M_BlockWriter_writeLengths.2.1 66 = .ok (.goto (-18), 3) := by decide +kernel
theorem d_BlockWriter_writeLengths_69 : decode M_BlockWriter_writeLengths.2.1 69 = .ok (.aload_n 0, 1) := by decide +kernel
theorem d_BlockWriter_writeLengths_70 : decode M_BlockWriter_writeLengths.2.1 70 = .ok (.getfield 33, 3) := by decide +kernel
theorem d_BlockWriter_writeLengths_73 : decode M_BlockWriter_writeLengths.2.1 73 = .ok (.iconst 0, 1) := by decide +kernel
theorem d_BlockWriter_writeLengths_74 : decode M_BlockWriter_writeLengths.2.1 74 = .ok (.iconst 1, 1) := by decide +kernel
theorem d_BlockWriter_writeLengths_75 : decode M_BlockWriter_writeLengths.2.1 75 = .ok (.invokevirtual 40, 3) := by decide +kernel
theorem d_BlockWriter_writeLengths_78 : decode M_BlockWriter_writeLengths.2.1 78 = .ok (.aload_n 1, 1) := by decide +kernel
theorem d_BlockWriter_writeLengths_79 : decode M_BlockWriter_writeLengths.2.1 79 = .ok (.iload 4, 2) := by decide +kernel
theorem d_BlockWriter_writeLengths_81 : decode M_BlockWriter_writeLengths.2.1 81 = .ok (.iaload, 1) := by decide +kernel
theorem d_BlockWriter_writeLengths_82 : decode M_BlockWriter_writeLengths.2.1 82 = .ok (.istore_n 3, 1) := by decide +kernel
theorem d_BlockWriter_writeLengths_83 : decode M_BlockWriter_writeLengths.2.1 83 = .ok (.iinc 4 1, 3) := by decide +kernel
theorem d_BlockWriter_writeLengths_86 : decode M_BlockWriter_writeLengths.2.1 86 = .ok (.goto (-70), 3) := by decide +kernel
theorem d_BlockWriter_writeLengths_89 : decode M_BlockWriter_writeLengths.2.1 89 = .ok (.return_, 1) := by decide +kernel
theorem d_BlockWriter_writeSymbols_0 : decode M_BlockWriter_writeSymbols.2.1 0 = .ok (.iconst 0, 1) := by decide +kernel
theorem d_BlockWriter_writeSymbols_1 : decode M_BlockWriter_writeSymbols.2.1 1 = .ok (.istore_n 2, 1) := by decide +kernel
theorem d_BlockWriter_writeSymbols_2 : decode M_BlockWriter_writeSymbols.2.1 2 = .ok (.iload_n 2, 1) := by decide +kernel
theorem d_BlockWriter_writeSymbols_3 : decode M_BlockWriter_writeSymbols.2.1 3 = .ok (.aload_n 1, 1) := by decide +kernel
theorem d_BlockWriter_writeSymbols_4 : decode M_BlockWriter_writeSymbols.2.1 4 = .ok (.getfield 118, 3) := by decide +kernel
theorem d_BlockWriter_writeSymbols_7 : decode M_BlockWriter_writeSymbols.2.1 7 = .ok (.if_icmp .ge 50, 3) := by decide +kernel
theorem d_BlockWriter_writeSymbols_10 : decode M_BlockWriter_writeSymbols.2.1 10 = .ok (.aload_n 1, 1) := by decide +kernel
theorem d_BlockWriter_writeSymbols_11 : decode M_BlockWriter_writeSymbols.2.1 11 = .ok (.iload_n 2, 1) := by decide +kernel
theorem d_BlockWriter_writeSymbols_12 : decode M_BlockWriter_writeSymbols.2.1 12 = .ok (.invokevirtual 121, 3) := by decide +kernel
theorem d_BlockWriter_writeSymbols_15 : decode M_BlockWriter_writeSymbols.2.1 15 = .ok (.istore_n 3, 1) := by decide +kernel
theorem d_BlockWriter_writeSymbols_16 : decode M_BlockWriter_writeSymbols.2.1 16 = .ok (.aload_n 1, 1) := by decide +kernel
theorem d_BlockWriter_writeSymbols_17 : decode M_BlockWriter_writeSymbols.2.1 17 = .ok (.getfield 124, 3) := by decide +kernel
theorem d_BlockWriter_writeSymbols_20 : decode M_BlockWriter_writeSymbols.2.1 20 = .ok (.iload_n 2, 1) := by decide +kernel
theorem d_BlockWriter_writeSymbols_21 : decode M_BlockWriter_writeSymbols.2.1 21 = .ok (.iaload, 1) := by decide +kernel
theorem d_BlockWriter_writeSymbols_22 : decode M_BlockWriter_writeSymbols.2.1 22 = .ok (.istore 4, 2) := by decide +kernel
theorem d_BlockWriter_writeSymbols_24 : decode M_BlockWriter_writeSymbols.2.1 24 = .ok (.aload_n 0, 1) := by decide +kernel
theorem d_BlockWriter_writeSymbols_25 : decode M_BlockWriter_writeSymbols.2.1 25 = .ok (.getfield 33, 3) := by decide +kernel
theorem d_BlockWriter_writeSymbols_28 : decode M_BlockWriter_writeSymbols.2.1 28 = .ok (.aload_n 0, 1) := by decide +kernel
theorem d_BlockWriter_writeSymbols_29 : decode M_BlockWriter_writeSymbols.2.1 29 = .ok (.getfield 24, 3) := by decide +kernel
theorem d_BlockWriter_writeSymbols_32 : decode M_BlockWriter_writeSymbols.2.1 32 = .ok (.iload_n 3, 1) := by decide +kernel
theorem d_BlockWriter_writeSymbols_33 : decode M_BlockWriter_writeSymbols.2.1 33 = .ok (.aaload, 1) := by decide +kernel
theorem d_BlockWriter_writeSymbols_34 : decode M_BlockWriter_writeSymbols.2.1 34 = .ok (.iload 4, 2) := by decide +kernel
theorem d_BlockWriter_writeSymbols_36 : decode M_BlockWriter_writeSymbols.2.1 36 = .ok (.invokevirtual 127, 3) := by decide +kernel
theorem d_BlockWriter_writeSymbols_39 : decode M_BlockWriter_writeSymbols.2.1 39 = .ok (.aload_n 1, 1) := by decide +kernel
theorem d_BlockWriter_writeSymbols_40 : decode M_BlockWriter_writeSymbols.2.1 40 = .ok (.getfield 71, 3) := by decide +kernel
theorem d_BlockWriter_writeSymbols_43 : decode M_BlockWriter_writeSymbols.2.1 43 = .ok (.iload_n 3, 1) := by decide +kernel
theorem d_BlockWriter_writeSymbols_44 : decode M_BlockWriter_writeSymbols.2.1 44 = .ok (.aaload, 1) := by decide +kernel
theorem d_BlockWriter_writeSymbols_45 : decode M_BlockWriter_writeSymbols.2.1 45 = .ok (.iload 4, 2) := by decide +kernel
theorem d_BlockWriter_writeSymbols_47 : decode M_BlockWriter_writeSymbols.2.1 47 = .ok (.iaload, 1) := by decide +kernel
theorem d_BlockWriter_writeSymbols_48 : decode M_BlockWriter_writeSymbols.2.1 48 = .ok (.invokevirtual 40, 3) := by decide +kernel
theorem d_BlockWriter_writeSymbols_51 : decode M_BlockWriter_writeSymbols.2.1 51 = .ok (.iinc 2 1, 3) := by decide +kernel
theorem d_BlockWriter_writeSymbols_54 : decode M_BlockWriter_writeSymbols.2.1 54 = .ok (.goto (-52), 3) := by decide +kernel
theorem d_BlockWriter_writeSymbols_57 : decode M_BlockWriter_writeSymbols.2.1 57 = .ok (.return_, 1) := by decide +kernel
theorem d_Codes_init_0 : decode M_Codes_init.2.1 0 = .ok (.aload_n 0, 1) := by decide +kernel
theorem d_Codes_init_1 : decode M_Codes_init.2.1 1 = .ok (.invokespecial 3, 3) := by decide +kernel
theorem d_Codes_init_4 : decode M_Codes_init.2.1 4 = .ok (.aload_n 0, 1) := by decide +kernel
theorem d_Codes_init_5 : decode M_Codes_init.2.1 5 = .ok (.bipush 13, 2) := by decide +kernel
theorem d_Codes_init_7 : decode M_Codes_init.2.1 7 = .ok (.newarray .int, 2) := by decide +kernel
theorem d_Codes_init_9 : decode M_Codes_init.2.1 9 = .ok (.putfield 9, 3) := by decide +kernel
theorem d_Codes_init_12 : decode M_Codes_init.2.1 12 = .ok (.aload_n 0, 1) := by decide +kernel
theorem d_Codes_init_13 : decode M_Codes_init.2.1 13 = .ok (.bipush 13, 2) := by decide +kernel
theorem d_Codes_init_15 : decode M_Codes_init.2.1 15 = .ok (.newarray .int, 2) := by decide +kernel
theorem d_Codes_init_17 : decode M_Codes_init.2.1 17 = .ok (.putfield 15, 3) := by decide +kernel
theorem d_Codes_init_20 : decode M_Codes_init.2.1 20 = .ok (.aload_n 0, 1) := by decide +kernel
theorem d_Codes_init_21 : decode M_Codes_init.2.1 21 = .ok (.bipush 13, 2) := by decide +kernel
theorem d_Codes_init_23 : decode M_Codes_init.2.1 23 = .ok (.newarray .int, 2) := by decide +kernel
theorem d_Codes_init_25 : decode M_Codes_init.2.1 25 = .ok (.putfield 18, 3) := by decide +kernel
theorem d_Codes_init_28 : decode M_Codes_init.2.1 28 = .ok (.aload_n 0, 1) := by decide +kernel
theorem d_Codes_init_29 : decode M_Codes_init.2.1 29 = .ok (.iload_n 1, 1) := by decide +kernel
theorem d_Codes_init_30 : decode M_Codes_init.2.1 30 = .ok (.newarray .int, 2) := by decide +kernel
theorem d_Codes_init_32 : decode M_Codes_init.2.1 32 = .ok (.putfield 21, 3) := by decide +kernel
theorem d_Codes_init_35 : decode M_Codes_init.2.1 35 = .ok (.aload_n 0, 1) := by decide +kernel
theorem d_Codes_init_36 : decode M_Codes_init.2.1 36 = .ok (.iload_n 1, 1) := by decide +kernel
theorem d_Codes_init_37 : decode M_Codes_init.2.1 37 = .ok (.newarray .int, 2) := by decide +kernel
theorem d_Codes_init_39 : decode M_Codes_init.2.1 39 = .ok (.putfield 24, 3) := by decide +kernel
theorem d_Codes_init_42 : decode M_Codes_init.2.1 42 = .ok (.return_, 1) := by decide +kernel
theorem d_Codes_setTo_0 : decode M_Codes_setTo.2.1 0 = .ok (.iload_n 2, 1) := by decide +kernel
theorem d_Codes_setTo_1 : decode M_Codes_setTo.2.1 1 = .ok (.aload_n 1, 1) := by decide +kernel
theorem d_Codes_setTo_2 : decode M_Codes_setTo.2.1 2 = .ok (.arraylength, 1) := by decide +kernel
theorem d_Codes_setTo_3 : decode M_Codes_setTo.2.1 3 = .ok (.aload_n 0, 1) := by decide +kernel
theorem d_Codes_setTo_4 : decode M_Codes_setTo.2.1 4 = .ok (.getfield 21, 3) := by decide +kernel
theorem d_Codes_setTo_7 : decode M_Codes_setTo.2.1 7 = .ok (.arraylength, 1) := by decide +kernel
theorem d_Codes_setTo_8 : decode M_Codes_setTo.2.1 8 = .ok (.invokestatic 27, 3) := by decide +kernel
theorem d_Codes_setTo_11 : decode M_Codes_setTo.2.1 11 = .ok (.invokestatic 27, 3) := by decide +kernel
theorem d_Codes_setTo_14 : decode M_Codes_setTo.2.1 14 = .ok (.istore_n 3, 1) := by decide +kernel
theorem d_Codes_setTo_15 : decode M_Codes_setTo.2.1 15 = .ok (.aload_n 0, 1) := by decide +kernel
theorem d_Codes_setTo_16 : decode M_Codes_setTo.2.1 16 = .ok (.aload_n 1, 1) := by decide +kernel
theorem d_Codes_setTo_17 : decode M_Codes_setTo.2.1 17 = .ok (.iload_n 3, 1) := by decide +kernel
theorem d_Codes_setTo_18 : decode M_Codes_setTo.2.1 18 = .ok (.invokevirtual 33, 3) := by decide +kernel
theorem d_Codes_setTo_21 : decode M_Codes_setTo.2.1 21 = .ok (.aload_n 0, 1) := by decide +kernel
theorem d_Codes_setTo_22 : decode M_Codes_setTo.2.1 22 = .ok (.invokevirtual 37, 3) := by decide +kernel
theorem d_Codes_setTo_25 : decode M_Codes_setTo.2.1 25 = .ok (.aload_n 0, 1) := by decide +kernel
theorem d_Codes_setTo_26 : decode M_Codes_setTo.2.1 26 = .ok (.getfield 15, 3) := by decide +kernel
theorem d_Codes_setTo_29 : decode M_Codes_setTo.2.1 29 = .ok (.iconst 0, 1) := by decide +kernel
theorem d_Codes_setTo_30 : decode M_Codes_setTo.2.1 30 = .ok (.invokestatic 40, 3) := by decide +kernel
theorem d_Codes_setTo_33 : decode M_Codes_setTo.2.1 33 = .ok (.iconst 0, 1) := by decide +kernel
theorem d_Codes_setTo_34 : decode M_Codes_setTo.2.1 34 = .ok (.istore 4, 2) := by decide +kernel
theorem d_Codes_setTo_36 : decode M_Codes_setTo.2.1 36 = .ok (.iload 4, 2) := by decide +kernel
theorem d_Codes_setTo_38 : decode M_Codes_setTo.2.1 38 = .ok (.iload_n 3, 1) := by decide +kernel
theorem d_Codes_setTo_39 : decode M_Codes_setTo.2.1 39 = .ok (.if_icmp .ge 84, 3) := by decide +kernel
theorem d_Codes_setTo_42 : decode M_Codes_setTo.2.1 42 = .ok (.aload_n 1, 1) := by decide +kernel
theorem d_Codes_setTo_43 : decode M_Codes_setTo.2.1 43 = .ok (.iload 4, 2) := by decide +kernel
theorem d_Codes_setTo_45 : decode M_Codes_setTo.2.1 45 = .ok (.iaload, 1) := by decide +kernel
theorem d_Codes_setTo_46 : decode M_Codes_setTo.2.1 46 = .ok (.istore 5, 2) := by decide +kernel
theorem d_Codes_setTo_48 : decode M_Codes_setTo.2.1 48 = .ok (.iload 5, 2) := by decide +kernel
theorem d_Codes_setTo_50 : decode M_Codes_setTo.2.1 50 = .ok (.invokestatic 45, 3) := by decide +kernel
theorem d_Codes_setTo_53 : decode M_Codes_setTo.2.1 53 = .ok (.ifCond .eq 64, 3) := by decide +kernel
theorem d_Codes_setTo_56 : decode M_Codes_setTo.2.1 56 = .ok (.aload_n 0, 1) := by decide +kernel
theorem d_Codes_setTo_57 : decode M_Codes_setTo.2.1 57 = .ok (.getfield 24, 3) := by decide +kernel
theorem d_Codes_setTo_60 : decode M_Codes_setTo.2.1 60 = .ok (.iload 4, 2) := by decide +kernel
theorem d_Codes_setTo_62 : decode M_Codes_setTo.2.1 62 = .ok (.aload_n 0, 1) := by decide +kernel
theorem d_Codes_setTo_63 : decode M_Codes_setTo.2.1 63 = .ok (.getfield 9, 3) := by decide +kernel
theorem d_Codes_setTo_66 : decode M_Codes_setTo.2.1 66 = .ok (.iload 5, 2) := by decide +kernel
theorem d_Codes_setTo_68 : decode M_Codes_setTo.2.1 68 = .ok (.iaload, 1) := by decide +kernel
theorem d_Codes_setTo_69 : decode M_Codes_setTo.2.1 69 = .ok (.aload_n 0, 1) := by decide +kernel
theorem d_Codes_setTo_70 : decode M_Codes_setTo.2.1 70 = .ok (.getfield 15, 3) := by decide +kernel
theorem d_Codes_setTo_73 : decode M_Codes_setTo.2.1 73 = .ok (.iload 5, 2) := by decide +kernel
theorem d_Codes_setTo_75 : decode M_Codes_setTo.2.1 75 = .ok (.iaload, 1) := by decide +kernel
theorem d_Codes_setTo_76 : decode M_Codes_setTo.2.1 76 = .ok (.iadd, 1) := by decide +kernel
theorem d_Codes_setTo_77 : decode M_Codes_setTo.2.1 77 = .ok (.iload 5, 2) := by decide +kernel
theorem d_Codes_setTo_79 : decode M_Codes_setTo.2.1 79 = .ok (.invokestatic 49, 3) := by decide +kernel
theorem d_Codes_setTo_82 : decode M_Codes_setTo.2.1 82 = .ok (.iand, 1) := by decide +kernel
theorem d_Codes_setTo_83 : decode M_Codes_setTo.2.1 83 = .ok (.iastore, 1) := by decide +kernel
theorem d_Codes_setTo_84 : decode M_Codes_setTo.2.1 84 = .ok (.aload_n 0, 1) := by decide +kernel
theorem d_Codes_setTo_85 : decode M_Codes_setTo.2.1 85 = .ok (.getfield 21, 3) := by decide +kernel
theorem d_Codes_setTo_88 : decode M_Codes_setTo.2.1 88 = .ok (.aload_n 0, 1) := by decide +kernel
theorem d_Codes_setTo_89 : decode M_Codes_setTo.2.1 89 = .ok (.getfield 18, 3) := by decide +kernel
theorem d_Codes_setTo_92 : decode M_Codes_setTo.2.1 92 = .ok (.iload 5, 2) := by decide +kernel
theorem d_Codes_setTo_94 : decode M_Codes_setTo.2.1 94 = .ok (.iaload, 1) := by decide +kernel
theorem d_Codes_setTo_95 : decode M_Codes_setTo.2.1 95 = .ok (.aload_n 0, 1) := by decide +kernel
theorem d_Codes_setTo_96 : decode M_Codes_setTo.2.1 96 = .ok (.getfield 15, 3) := by decide +kernel
theorem d_Codes_setTo_99 : decode M_Codes_setTo.2.1 99 = .ok (.iload 5, 2) := by decide +kernel
theorem d_Codes_setTo_101 : decode M_Codes_setTo.2.1 101 = .ok (.iaload, 1) := by decide +kernel
theorem d_Codes_setTo_102 : decode M_Codes_setTo.2.1 102 = .ok (.iadd, 1) := by decide +kernel
theorem d_Codes_setTo_103 : decode M_Codes_setTo.2.1 103 = .ok (.iload 4, 2) := by decide +kernel
theorem d_Codes_setTo_105 : decode M_Codes_setTo.2.1 105 = .ok (.iastore, 1) := by decide +kernel
theorem d_Codes_setTo_106 : decode M_Codes_setTo.2.1 106 = .ok (.aload_n 0, 1) := by decide +kernel
theorem d_Codes_setTo_107 : decode M_Codes_setTo.2.1 107 = .ok (.getfield 15, 3) := by decide +kernel
theorem d_Codes_setTo_110 : decode M_Codes_setTo.2.1 110 = .ok (.iload 5, 2) := by decide +kernel
theorem d_Codes_setTo_112 : decode M_Codes_setTo.2.1 112 = .ok (.dup2, 1) := by decide +kernel
theorem d_Codes_setTo_113 : decode M_Codes_setTo.2.1 113 = .ok (.iaload, 1) := by decide +kernel
theorem d_Codes_setTo_114 : decode M_Codes_setTo.2.1 114 = .ok (.iconst 1, 1) := by decide +kernel
theorem d_Codes_setTo_115 : decode M_Codes_setTo.2.1 115 = .ok (.iadd, 1) := by decide +kernel
theorem d_Codes_setTo_116 : decode M_Codes_setTo.2.1 116 = .ok (.iastore, 1) := by decide +kernel
theorem d_Codes_setTo_117 : decode M_Codes_setTo.2.1 117 = .ok (.iinc 4 1, 3) := by decide +kernel
theorem d_Codes_setTo_120 : decode M_Codes_setTo.2.1 120 = .ok (.goto (-84), 3) := by decide +kernel
theorem d_Codes_setTo_123 : decode M_Codes_setTo.2.1 123 = .ok (.return_, 1) := by decide +kernel
theorem d_Codes_codeOf_0 : decode M_Codes_codeOf.2.1 0 = .ok (.iload_n 1, 1) := by decide +kernel
theorem d_Codes_codeOf_1 : decode M_Codes_codeOf.2.1 1 = .ok (.ifCond .lt 21, 3) := by decide +kernel
theorem d_Codes_codeOf_4 : decode M_Codes_codeOf.2.1 4 = .ok (.iload_n 1, 1) := by decide +kernel
theorem d_Codes_codeOf_5 : decode M_Codes_codeOf.2.1 5 = .ok (.aload_n 0, 1) := by decide +kernel
theorem d_Codes_codeOf_6 : decode M_Codes_codeOf.2.1 6 = .ok (.getfield 24, 3) := by decide +kernel
theorem d_Codes_codeOf_9 : decode M_Codes_codeOf.2.1 9 = .ok (.arraylength, 1) := by decide +kernel
theorem d_Codes_codeOf_10 : decode M_Codes_codeOf.2.1 10 = .ok (.if_icmp .ge 12, 3) := by decide +kernel
theorem d_Codes_codeOf_13 : decode M_Codes_codeOf.2.1 13 = .ok (.aload_n 0, 1) := by decide +kernel
theorem d_Codes_codeOf_14 : decode M_Codes_codeOf.2.1 14 = .ok (.getfield 24, 3) := by decide +kernel
theorem d_Codes_codeOf_17 : decode M_Codes_codeOf.2.1 17 = .ok (.iload_n 1, 1) := by decide +kernel
theorem d_Codes_codeOf_18 : decode M_Codes_codeOf.2.1 18 = .ok (.iaload, 1) := by decide +kernel
theorem d_Codes_codeOf_19 : decode M_Codes_codeOf.2.1 19 = .ok (.goto 4, 3) := by decide +kernel
theorem d_Codes_codeOf_22 : decode M_Codes_codeOf.2.1 22 = .ok (.iconst 0, 1) := by decide +kernel
theorem d_Codes_codeOf_23 : decode M_Codes_codeOf.2.1 23 = .ok (.ireturn, 1) := by decide +kernel
theorem d_Codes_find_0 : decode M_Codes_find.2.1 0 = .ok (.iload_n 2, 1) := by decide +kernel
theorem d_Codes_find_1 : decode M_Codes_find.2.1 1 = .ok (.invokestatic 45, 3) := by decide +kernel
theorem d_Codes_find_4 : decode M_Codes_find.2.1 4 = .ok (.ifCond .ne 5, 3) := by decide +kernel
theorem d_Codes_find_7 : decode M_Codes_find.2.1 7 = .ok (.iconst (-1), 1) := by decide +kernel
theorem d_Codes_find_8 : decode M_Codes_find.2.1 8 = .ok (.ireturn, 1) := by decide +kernel
theorem d_Codes_find_9 : decode M_Codes_find.2.1 9 = .ok (.iload_n 1, 1) := by decide +kernel
theorem d_Codes_find_10 : decode M_Codes_find.2.1 10 = .ok (.aload_n 0, 1) := by decide +kernel
theorem d_Codes_find_11 : decode M_Codes_find.2.1 11 = .ok (.getfield 9, 3) := by decide +kernel
theorem d_Codes_find_14 : decode M_Codes_find.2.1 14 = .ok (.iload_n 2, 1) := by decide +kernel
theorem d_Codes_find_15 : decode M_Codes_find.2.1 15 = .ok (.iaload, 1) := by decide +kernel
theorem d_Codes_find_16 : decode M_Codes_find.2.1 16 = .ok (.isub, 1) := by decide +kernel
theorem d_Codes_find_17 : decode M_Codes_find.2.1 17 = .ok (.iload_n 2, 1) := by decide +kernel
theorem d_Codes_find_18 : decode M_Codes_find.2.1 18 = .ok (.invokestatic 49, 3) := by decide +kernel
theorem d_Codes_find_21 : decode M_Codes_find.2.1 21 = .ok (.iand, 1) := by decide +kernel
theorem d_Codes_find_22 : decode M_Codes_find.2.1 22 = .ok (.istore_n 3, 1) := by decide +kernel
theorem d_Codes_find_23 : decode M_Codes_find.2.1 23 = .ok (.iload_n 3, 1) := by decide +kernel
theorem d_Codes_find_24 : decode M_Codes_find.2.1 24 = .ok (.aload_n 0, 1) := by decide +kernel
theorem d_Codes_find_25 : decode M_Codes_find.2.1 25 = .ok (.getfield 15, 3) := by decide +kernel
theorem d_Codes_find_28 : decode M_Codes_find.2.1 28 = .ok (.iload_n 2, 1) := by decide +kernel
theorem d_Codes_find_29 : decode M_Codes_find.2.1 29 = .ok (.iaload, 1) := by decide +kernel
theorem d_Codes_find_30 : decode M_Codes_find.2.1 30 = .ok (.if_icmp .ge 19, 3) := by decide +kernel
theorem d_Codes_find_33 : decode M_Codes_find.2.1 33 = .ok (.aload_n 0, 1) := by decide +kernel
theorem d_Codes_find_34 : decode M_Codes_find.2.1 34 = .ok (.getfield 21, 3) := by decide +kernel
theorem d_Codes_find_37 : decode M_Codes_find.2.1 37 = .ok (.aload_n 0, 1) := by decide +kernel
theorem d_Codes_find_38 : decode M_Codes_find.2.1 38 = .ok (.getfield 18, 3) := by decide +kernel
theorem d_Codes_find_41 : decode M_Codes_find.2.1 41 = .ok (.iload_n 2, 1) := by decide +kernel
theorem d_Codes_find_42 : decode M_Codes_find.2.1 42 = .ok (.iaload, 1) := by decide +kernel
theorem d_Codes_find_43 : decode M_Codes_find.2.1 43 = .ok (.iload_n 3, 1) := by decide +kernel
theorem d_Codes_find_44 : decode M_Codes_find.2.1 44 = .ok (.iadd, 1) := by decide +kernel
theorem d_Codes_find_45 : decode M_Codes_find.2.1 45 = .ok (.iaload, 1) := by decide +kernel
theorem d_Codes_find_46 : decode M_Codes_find.2.1 46 = .ok (.goto 4, 3) := by decide +kernel
theorem d_Codes_find_49 : decode M_Codes_find.2.1 49 = .ok (.iconst (-1), 1) := by decide +kernel
theorem d_Codes_find_50 : decode M_Codes_find.2.1 50 = .ok (.ireturn, 1) := by decide +kernel
theorem d_Codes_countLengths_0 : decode M_Codes_countLengths.2.1 0 = .ok (.aload_n 0, 1) := by decide +kernel
theorem d_Codes_countLengths_1 : decode M_Codes_countLengths.2.1 1 = .ok (.getfield 15, 3) := by decide +kernel
theorem d_Codes_countLengths_4 : decode M_Codes_countLengths.2.1 4 = .ok (.iconst 0, 1) := by decide +kernel
theorem d_Codes_countLengths_5 : decode M_Codes_countLengths.2.1 5 = .ok (.invokestatic 40, 3) := by decide +kernel
theorem d_Codes_countLengths_8 : decode M_Codes_countLengths.2.1 8 = .ok (.iconst 0, 1) := by decide +kernel
theorem d_Codes_countLengths_9 : decode M_Codes_countLengths.2.1 9 = .ok (.istore_n 3, 1) := by decide +kernel
theorem d_Codes_countLengths_10 : decode M_Codes_countLengths.2.1 10 = .ok (.iload_n 3, 1) := by decide +kernel
theorem d_Codes_countLengths_11 : decode M_Codes_countLengths.2.1 11 = .ok (.iload_n 2, 1) := by decide +kernel
theorem d_Codes_countLengths_12 : decode M_Codes_countLengths.2.1 12 = .ok (.if_icmp .ge 30, 3) := by decide +kernel
theorem d_Codes_countLengths_15 : decode M_Codes_countLengths.2.1 15 = .ok (.aload_n 1, 1) := by decide +kernel
theorem d_Codes_countLengths_16 : decode M_Codes_countLengths.2.1 16 = .ok (.iload_n 3, 1) := by decide +kernel
theorem d_Codes_countLengths_17 : decode M_Codes_countLengths.2.1 17 = .ok (.iaload, 1) := by decide +kernel
theorem d_Codes_countLengths_18 : decode M_Codes_countLengths.2.1 18 = .ok (.invokestatic 45, 3) := by decide +kernel
theorem d_Codes_countLengths_21 : decode M_Codes_countLengths.2.1 21 = .ok (.ifCond .eq 15, 3) := by decide +kernel
theorem d_Codes_countLengths_24 : decode M_Codes_countLengths.2.1 24 = .ok (.aload_n 0, 1) := by decide +kernel
theorem d_Codes_countLengths_25 : decode M_Codes_countLengths.2.1 25 = .ok (.getfield 15, 3) := by decide +kernel
theorem d_Codes_countLengths_28 : decode M_Codes_countLengths.2.1 28 = .ok (.aload_n 1, 1) := by decide +kernel
theorem d_Codes_countLengths_29 : decode M_Codes_countLengths.2.1 29 = .ok (.iload_n 3, 1) := by decide +kernel
theorem d_Codes_countLengths_30 : decode M_Codes_countLengths.2.1 30 = .ok (.iaload, 1) := by decide +kernel
theorem d_Codes_countLengths_31 : decode M_Codes_countLengths.2.1 31 = .ok (.dup2, 1) := by decide +kernel
theorem d_Codes_countLengths_32 : decode M_Codes_countLengths.2.1 32 = .ok (.iaload, 1) := by decide +kernel
theorem d_Codes_countLengths_33 : decode M_Codes_countLengths.2.1 33 = .ok (.iconst 1, 1) := by decide +kernel
theorem d_Codes_countLengths_34 : decode M_Codes_countLengths.2.1 34 = .ok (.iadd, 1) := by decide +kernel
theorem d_Codes_countLengths_35 : decode M_Codes_countLengths.2.1 35 = .ok (.iastore, 1) := by decide +kernel
theorem d_Codes_countLengths_36 : decode M_Codes_countLengths.2.1 36 = .ok (.iinc 3 1, 3) := by decide +kernel
theorem d_Codes_countLengths_39 : decode M_Codes_countLengths.2.1 39 = .ok (.goto (-29), 3) := by decide +kernel
theorem d_Codes_countLengths_42 : decode M_Codes_countLengths.2.1 42 = .ok (.return_, 1) := by decide +kernel
theorem d_Codes_placeLengths_0 : decode M_Codes_placeLengths.2.1 0 = .ok (.iconst 0, 1) := by decide +kernel
theorem d_Codes_placeLengths_1 : decode M_Codes_placeLengths.2.1 1 = .ok (.istore_n 1, 1) := by decide +kernel
theorem d_Codes_placeLengths_2 : decode M_Codes_placeLengths.2.1 2 = .ok (.iconst 0, 1) := by decide +kernel
theorem d_Codes_placeLengths_3 : decode M_Codes_placeLengths.2.1 3 = .ok (.istore_n 2, 1) := by decide +kernel
theorem d_Codes_placeLengths_4 : decode M_Codes_placeLengths.2.1 4 = .ok (.iconst 1, 1) := by decide +kernel
theorem d_Codes_placeLengths_5 : decode M_Codes_placeLengths.2.1 5 = .ok (.istore_n 3, 1) := by decide +kernel
theorem d_Codes_placeLengths_6 : decode M_Codes_placeLengths.2.1 6 = .ok (.iload_n 3, 1) := by decide +kernel
theorem d_Codes_placeLengths_7 : decode M_Codes_placeLengths.2.1 7 = .ok (.bipush 12, 2) := by decide +kernel
theorem d_Codes_placeLengths_9 : decode M_Codes_placeLengths.2.1 9 = .ok (.if_icmp .gt 50, 3) := by decide +kernel
theorem d_Codes_placeLengths_12 : decode M_Codes_placeLengths.2.1 12 = .ok (.iload_n 2, 1) := by decide +kernel
theorem d_Codes_placeLengths_13 : decode M_Codes_placeLengths.2.1 13 = .ok (.iconst 1, 1) := by decide +kernel
theorem d_Codes_placeLengths_14 : decode M_Codes_placeLengths.2.1 14 = .ok (.ishl, 1) := by decide +kernel
theorem d_Codes_placeLengths_15 : decode M_Codes_placeLengths.2.1 15 = .ok (.istore_n 2, 1) := by decide +kernel
theorem d_Codes_placeLengths_16 : decode M_Codes_placeLengths.2.1 16 = .ok (.aload_n 0, 1) := by decide +kernel
theorem d_Codes_placeLengths_17 : decode M_Codes_placeLengths.2.1 17 = .ok (.getfield 9, 3) := by decide +kernel
theorem d_Codes_placeLengths_20 : decode M_Codes_placeLengths.2.1 20 = .ok (.iload_n 3, 1) := by decide +kernel
theorem d_Codes_placeLengths_21 : decode M_Codes_placeLengths.2.1 21 = .ok (.iload_n 2, 1) := by decide +kernel
theorem d_Codes_placeLengths_22 : decode M_Codes_placeLengths.2.1 22 = .ok (.iastore, 1) := by decide +kernel
theorem d_Codes_placeLengths_23 : decode M_Codes_placeLengths.2.1 23 = .ok (.aload_n 0, 1) := by decide +kernel
theorem d_Codes_placeLengths_24 : decode M_Codes_placeLengths.2.1 24 = .ok (.getfield 18, 3) := by decide +kernel
theorem d_Codes_placeLengths_27 : decode M_Codes_placeLengths.2.1 27 = .ok (.iload_n 3, 1) := by decide +kernel
theorem d_Codes_placeLengths_28 : decode M_Codes_placeLengths.2.1 28 = .ok (.iload_n 1, 1) := by decide +kernel
theorem d_Codes_placeLengths_29 : decode M_Codes_placeLengths.2.1 29 = .ok (.iastore, 1) := by decide +kernel
theorem d_Codes_placeLengths_30 : decode M_Codes_placeLengths.2.1 30 = .ok (.iload_n 2, 1) := by decide +kernel
theorem d_Codes_placeLengths_31 : decode M_Codes_placeLengths.2.1 31 = .ok (.aload_n 0, 1) := by decide +kernel
theorem d_Codes_placeLengths_32 : decode M_Codes_placeLengths.2.1 32 = .ok (.getfield 15, 3) := by decide +kernel
theorem d_Codes_placeLengths_35 : decode M_Codes_placeLengths.2.1 35 = .ok (.iload_n 3, 1) := by decide +kernel
theorem d_Codes_placeLengths_36 : decode M_Codes_placeLengths.2.1 36 = .ok (.iaload, 1) := by decide +kernel
theorem d_Codes_placeLengths_37 : decode M_Codes_placeLengths.2.1 37 = .ok (.iadd, 1) := by decide +kernel
theorem d_Codes_placeLengths_38 : decode M_Codes_placeLengths.2.1 38 = .ok (.iload_n 3, 1) := by decide +kernel
theorem d_Codes_placeLengths_39 : decode M_Codes_placeLengths.2.1 39 = .ok (.invokestatic 49, 3) := by decide +kernel
theorem d_Codes_placeLengths_42 : decode M_Codes_placeLengths.2.1 42 = .ok (.iand, 1) := by decide +kernel
theorem d_Codes_placeLengths_43 : decode M_Codes_placeLengths.2.1 43 = .ok (.istore_n 2, 1) := by decide +kernel
theorem d_Codes_placeLengths_44 : decode M_Codes_placeLengths.2.1 44 = .ok (.iload_n 1, 1) := by decide +kernel
theorem d_Codes_placeLengths_45 : decode M_Codes_placeLengths.2.1 45 = .ok (.aload_n 0, 1) := by decide +kernel
theorem d_Codes_placeLengths_46 : decode M_Codes_placeLengths.2.1 46 = .ok (.getfield 15, 3) := by decide +kernel
theorem d_Codes_placeLengths_49 : decode M_Codes_placeLengths.2.1 49 = .ok (.iload_n 3, 1) := by decide +kernel
theorem d_Codes_placeLengths_50 : decode M_Codes_placeLengths.2.1 50 = .ok (.iaload, 1) := by decide +kernel
theorem d_Codes_placeLengths_51 : decode M_Codes_placeLengths.2.1 51 = .ok (.iadd, 1) := by decide +kernel
theorem d_Codes_placeLengths_52 : decode M_Codes_placeLengths.2.1 52 = .ok (.istore_n 1, 1) := by decide +kernel
theorem d_Codes_placeLengths_53 : decode M_Codes_placeLengths.2.1 53 = .ok (.iinc 3 1, 3) := by decide +kernel
theorem d_Codes_placeLengths_56 : decode M_Codes_placeLengths.2.1 56 = .ok (.goto (-50), 3) := by decide +kernel
theorem d_Codes_placeLengths_59 : decode M_Codes_placeLengths.2.1 59 = .ok (.return_, 1) := by decide +kernel
theorem d_Codes_isLength_0 : decode M_Codes_isLength.2.1 0 = .ok (.iload_n 0, 1) := by decide +kernel
theorem d_Codes_isLength_1 : decode M_Codes_isLength.2.1 1 = .ok (.iconst 1, 1) := by decide +kernel
theorem d_Codes_isLength_2 : decode M_Codes_isLength.2.1 2 = .ok (.if_icmp .lt 13, 3) := by decide +kernel
theorem d_Codes_isLength_5 : decode M_Codes_isLength.2.1 5 = .ok (.iload_n 0, 1) := by decide +kernel
theorem d_Codes_isLength_6 : decode M_Codes_isLength.2.1 6 = .ok (.bipush 12, 2) := by decide +kernel
theorem d_Codes_isLength_8 : decode M_Codes_isLength.2.1 8 = .ok (.if_icmp .gt 7, 3) := by decide +kernel
theorem d_Codes_isLength_11 : decode M_Codes_isLength.2.1 11 = .ok (.iconst 1, 1) := by decide +kernel
theorem d_Codes_isLength_12 : decode M_Codes_isLength.2.1 12 = .ok (.goto 4, 3) := by decide +kernel
theorem d_Codes_isLength_15 : decode M_Codes_isLength.2.1 15 = .ok (.iconst 0, 1) := by decide +kernel
theorem d_Codes_isLength_16 : decode M_Codes_isLength.2.1 16 = .ok (.ireturn, 1) := by decide +kernel
theorem d_Codes_mask_0 : decode M_Codes_mask.2.1 0 = .ok (.iconst 1, 1) := by decide +kernel
theorem d_Codes_mask_1 : decode M_Codes_mask.2.1 1 = .ok (.iload_n 0, 1) := by decide +kernel
theorem d_Codes_mask_2 : decode M_Codes_mask.2.1 2 = .ok (.ishl, 1) := by decide +kernel
theorem d_Codes_mask_3 : decode M_Codes_mask.2.1 3 = .ok (.iconst 1, 1) := by decide +kernel
theorem d_Codes_mask_4 : decode M_Codes_mask.2.1 4 = .ok (.isub, 1) := by decide +kernel
theorem d_Codes_mask_5 : decode M_Codes_mask.2.1 5 = .ok (.ireturn, 1) := by decide +kernel
theorem d_MoveList_init_0 : decode M_MoveList_init.2.1 0 = .ok (.aload_n 0, 1) := by decide +kernel
theorem d_MoveList_init_1 : decode M_MoveList_init.2.1 1 = .ok (.invokespecial 3, 3) := by decide +kernel
theorem d_MoveList_init_4 : decode M_MoveList_init.2.1 4 = .ok (.aload_n 0, 1) := by decide +kernel
theorem d_MoveList_init_5 : decode M_MoveList_init.2.1 5 = .ok (.sipush 256, 3) := by decide +kernel
theorem d_MoveList_init_8 : decode M_MoveList_init.2.1 8 = .ok (.newarray .int, 2) := by decide +kernel
theorem d_MoveList_init_10 : decode M_MoveList_init.2.1 10 = .ok (.putfield 9, 3) := by decide +kernel
theorem d_MoveList_init_13 : decode M_MoveList_init.2.1 13 = .ok (.aload_n 0, 1) := by decide +kernel
theorem d_MoveList_init_14 : decode M_MoveList_init.2.1 14 = .ok (.iconst 0, 1) := by decide +kernel
theorem d_MoveList_init_15 : decode M_MoveList_init.2.1 15 = .ok (.putfield 15, 3) := by decide +kernel
theorem d_MoveList_init_18 : decode M_MoveList_init.2.1 18 = .ok (.return_, 1) := by decide +kernel
theorem d_MoveList_setTo_0 : decode M_MoveList_setTo.2.1 0 = .ok (.aload_n 0, 1) := by decide +kernel
theorem d_MoveList_setTo_1 : decode M_MoveList_setTo.2.1 1 = .ok (.iload_n 2, 1) := by decide +kernel
theorem d_MoveList_setTo_2 : decode M_MoveList_setTo.2.1 2 = .ok (.aload_n 1, 1) := by decide +kernel
theorem d_MoveList_setTo_3 : decode M_MoveList_setTo.2.1 3 = .ok (.arraylength, 1) := by decide +kernel
theorem d_MoveList_setTo_4 : decode M_MoveList_setTo.2.1 4 = .ok (.aload_n 0, 1) := by decide +kernel
theorem d_MoveList_setTo_5 : decode M_MoveList_setTo.2.1 5 = .ok (.getfield 9, 3) := by decide +kernel
theorem d_MoveList_setTo_8 : decode M_MoveList_setTo.2.1 8 = .ok (.arraylength, 1) := by decide +kernel
theorem d_MoveList_setTo_9 : decode M_MoveList_setTo.2.1 9 = .ok (.invokestatic 19, 3) := by decide +kernel
theorem d_MoveList_setTo_12 : decode M_MoveList_setTo.2.1 12 = .ok (.invokestatic 19, 3) := by decide +kernel
theorem d_MoveList_setTo_15 : decode M_MoveList_setTo.2.1 15 = .ok (.putfield 15, 3) := by decide +kernel
theorem d_MoveList_setTo_18 : decode M_MoveList_setTo.2.1 18 = .ok (.aload_n 1, 1) := by decide +kernel
theorem d_MoveList_setTo_19 : decode M_MoveList_setTo.2.1 19 = .ok (.iconst 0, 1) := by decide +kernel
theorem d_MoveList_setTo_20 : decode M_MoveList_setTo.2.1 20 = .ok (.aload_n 0, 1) := by decide +kernel
theorem d_MoveList_setTo_21 : decode M_MoveList_setTo.2.1 21 = .ok (.getfield 9, 3) := by decide +kernel
theorem d_MoveList_setTo_24 : decode M_MoveList_setTo.2.1 24 = .ok (.iconst 0, 1) := by decide +kernel
theorem d_MoveList_setTo_25 : decode M_MoveList_setTo.2.1 25 = .ok (.aload_n 0, 1) := by decide +kernel
theorem d_MoveList_setTo_26 : decode M_MoveList_setTo.2.1 26 = .ok (.getfield 15, 3) := by decide +kernel
theorem d_MoveList_setTo_29 : decode M_MoveList_setTo.2.1 29 = .ok (.invokestatic 25, 3) := by decide +kernel
theorem d_MoveList_setTo_32 : decode M_MoveList_setTo.2.1 32 = .ok (.return_, 1) := by decide +kernel
theorem d_MoveList_setToNumbers_0 : decode M_MoveList_setToNumbers.2.1 0 = .ok (.aload_n 0, 1) := by decide +kernel
theorem d_MoveList_setToNumbers_1 : decode M_MoveList_setToNumbers.2.1 1 = .ok (.iload_n 1, 1) := by decide +kernel
theorem d_MoveList_setToNumbers_2 : decode M_MoveList_setToNumbers.2.1 2 = .ok (.aload_n 0, 1) := by decide +kernel
theorem d_MoveList_setToNumbers_3 : decode M_MoveList_setToNumbers.2.1 3 = .ok (.getfield 9, 3) := by decide +kernel
theorem d_MoveList_setToNumbers_6 : decode M_MoveList_setToNumbers.2.1 6 = .ok (.arraylength, 1) := by decide +kernel
theorem d_MoveList_setToNumbers_7 : decode M_MoveList_setToNumbers.2.1 7 = .ok (.invokestatic 19, 3) := by decide +kernel
theorem d_MoveList_setToNumbers_10 : decode M_MoveList_setToNumbers.2.1 10 = .ok (.putfield 15, 3) := by decide +kernel
theorem d_MoveList_setToNumbers_13 : decode M_MoveList_setToNumbers.2.1 13 = .ok (.iconst 0, 1) := by decide +kernel
theorem d_MoveList_setToNumbers_14 : decode M_MoveList_setToNumbers.2.1 14 = .ok (.istore_n 2, 1) := by decide +kernel
theorem d_MoveList_setToNumbers_15 : decode M_MoveList_setToNumbers.2.1 15 = .ok (.iload_n 2, 1) := by decide +kernel
theorem d_MoveList_setToNumbers_16 : decode M_MoveList_setToNumbers.2.1 16 = .ok (.aload_n 0, 1) := by decide +kernel
theorem d_MoveList_setToNumbers_17 : decode M_MoveList_setToNumbers.2.1 17 = .ok (.getfield 15, 3) := by decide +kernel
theorem d_MoveList_setToNumbers_20 : decode M_MoveList_setToNumbers.2.1 20 = .ok (.if_icmp .ge 16, 3) := by decide +kernel
theorem d_MoveList_setToNumbers_23 : decode M_MoveList_setToNumbers.2.1 23 = .ok (.aload_n 0, 1) := by decide +kernel
theorem d_MoveList_setToNumbers_24 : decode M_MoveList_setToNumbers.2.1 24 = .ok (.getfield 9, 3) := by decide +kernel
theorem d_MoveList_setToNumbers_27 : decode M_MoveList_setToNumbers.2.1 27 = .ok (.iload_n 2, 1) := by decide +kernel
theorem d_MoveList_setToNumbers_28 : decode M_MoveList_setToNumbers.2.1 28 = .ok (.iload_n 2, 1) := by decide +kernel
theorem d_MoveList_setToNumbers_29 : decode M_MoveList_setToNumbers.2.1 29 = .ok (.iastore, 1) := by decide +kernel
theorem d_MoveList_setToNumbers_30 : decode M_MoveList_setToNumbers.2.1 30 = .ok (.iinc 2 1, 3) := by decide +kernel
theorem d_MoveList_setToNumbers_33 : decode M_MoveList_setToNumbers.2.1 33 = .ok (.goto (-18), 3) := by decide +kernel
theorem d_MoveList_setToNumbers_36 : decode M_MoveList_setToNumbers.2.1 36 = .ok (.return_, 1) := by decide +kernel
theorem d_MoveList_moveValue_0 : decode M_MoveList_moveValue.2.1 0 = .ok (.iconst 0, 1) := by decide +kernel
theorem d_MoveList_moveValue_1 : decode M_MoveList_moveValue.2.1 1 = .ok (.istore_n 2, 1) := by decide +kernel
theorem d_MoveList_moveValue_2 : decode M_MoveList_moveValue.2.1 2 = .ok (.iload_n 2, 1) := by decide +kernel
theorem d_MoveList_moveValue_3 : decode M_MoveList_moveValue.2.1 3 = .ok (.aload_n 0, 1) := by decide +kernel
theorem d_MoveList_moveValue_4 : decode M_MoveList_moveValue.2.1 4 = .ok (.getfield 15, 3) := by decide +kernel
theorem d_MoveList_moveValue_7 : decode M_MoveList_moveValue.2.1 7 = .ok (.iconst 1, 1) := by decide +kernel
theorem d_MoveList_moveValue_8 : decode M_MoveList_moveValue.2.1 8 = .ok (.isub, 1) := by decide +kernel
theorem d_MoveList_moveValue_9 : decode M_MoveList_moveValue.2.1 9 = .ok (.if_icmp .ge 19, 3) := by decide +kernel
theorem d_MoveList_moveValue_12 : decode M_MoveList_moveValue.2.1 12 = .ok (.aload_n 0, 1) := by decide +kernel
theorem d_MoveList_moveValue_13 : decode M_MoveList_moveValue.2.1 13 = .ok (.getfield 9, 3) := by decide +kernel
theorem d_MoveList_moveValue_16 : decode M_MoveList_moveValue.2.1 16 = .ok (.iload_n 2, 1) := by decide +kernel
theorem d_MoveList_moveValue_17 : decode M_MoveList_moveValue.2.1 17 = .ok (.iaload, 1) := by decide +kernel
theorem d_MoveList_moveValue_18 : decode M_MoveList_moveValue.2.1 18 = .ok (.iload_n 1, 1) := by decide +kernel
theorem d_MoveList_moveValue_19 : decode M_MoveList_moveValue.2.1 19 = .ok (.if_icmp .eq 9, 3) := by decide +kernel
theorem d_MoveList_moveValue_22 : decode M_MoveList_moveValue.2.1 22 = .ok (.iinc 2 1, 3) := by decide +kernel
theorem d_MoveList_moveValue_25 : decode M_MoveList_moveValue.2.1 25 = .ok (.goto (-23), 3) := by decide +kernel
theorem d_MoveList_moveValue_28 : decode M_MoveList_moveValue.2.1 28 = .ok (.aload_n 0, 1) := by decide +kernel
theorem d_MoveList_moveValue_29 : decode M_MoveList_moveValue.2.1 29 = .ok (.iload_n 2, 1) := by decide +kernel
theorem d_MoveList_moveValue_30 : decode M_MoveList_moveValue.2.1 30 = .ok (.invokevirtual 31, 3) := by decide +kernel
theorem d_MoveList_moveValue_33 : decode M_MoveList_moveValue.2.1 33 = .ok (.pop, 1) := by decide +kernel
theorem d_MoveList_moveValue_34 : decode M_MoveList_moveValue.2.1 34 = .ok (.iload_n 2, 1) := by decide +kernel
theorem d_MoveList_moveValue_35 : decode M_MoveList_moveValue.2.1 35 = .ok (.ireturn, 1) := by decide +kernel
theorem d_MoveList_movePlace_0 : decode M_MoveList_movePlace.2.1 0 = .ok (.iload_n 1, 1) := by decide +kernel
theorem d_MoveList_movePlace_1 : decode M_MoveList_movePlace.2.1 1 = .ok (.ifCond .lt 11, 3) := by decide +kernel
theorem d_MoveList_movePlace_4 : decode M_MoveList_movePlace.2.1 4 = .ok (.iload_n 1, 1) := by decide +kernel
theorem d_MoveList_movePlace_5 : decode M_MoveList_movePlace.2.1 5 = .ok (.aload_n 0, 1) := by decide +kernel
theorem d_MoveList_movePlace_6 : decode M_MoveList_movePlace.2.1 6 = .ok (.getfield 15, 3) := by decide +kernel
theorem d_MoveList_movePlace_9 : decode M_MoveList_movePlace.2.1 9 = .ok (.if_icmp .lt 5, 3) := by decide +kernel
theorem d_MoveList_movePlace_12 : decode M_MoveList_movePlace.2.1 12 = .ok (.iconst 0, 1) := by decide +kernel
theorem d_MoveList_movePlace_13 : decode M_MoveList_movePlace.2.1 13 = .ok (.ireturn, 1) := by decide +kernel
theorem d_MoveList_movePlace_14 : decode M_MoveList_movePlace.2.1 14 = .ok (.aload_n 0, 1) := by decide +kernel
theorem d_MoveList_movePlace_15 : decode M_MoveList_movePlace.2.1 15 = .ok (.getfield 9, 3) := by decide +kernel
theorem d_MoveList_movePlace_18 : decode M_MoveList_movePlace.2.1 18 = .ok (.iload_n 1, 1) := by decide +kernel
theorem d_MoveList_movePlace_19 : decode M_MoveList_movePlace.2.1 19 = .ok (.iaload, 1) := by decide +kernel
theorem d_MoveList_movePlace_20 : decode M_MoveList_movePlace.2.1 20 = .ok (.istore_n 2, 1) := by decide +kernel
theorem d_MoveList_movePlace_21 : decode M_MoveList_movePlace.2.1 21 = .ok (.aload_n 0, 1) := by decide +kernel
theorem d_MoveList_movePlace_22 : decode M_MoveList_movePlace.2.1 22 = .ok (.getfield 9, 3) := by decide +kernel
theorem d_MoveList_movePlace_25 : decode M_MoveList_movePlace.2.1 25 = .ok (.iconst 0, 1) := by decide +kernel
theorem d_MoveList_movePlace_26 : decode M_MoveList_movePlace.2.1 26 = .ok (.aload_n 0, 1) := by decide +kernel
theorem d_MoveList_movePlace_27 : decode M_MoveList_movePlace.2.1 27 = .ok (.getfield 9, 3) := by decide +kernel
theorem d_MoveList_movePlace_30 : decode M_MoveList_movePlace.2.1 30 = .ok (.iconst 1, 1) := by decide +kernel
theorem d_MoveList_movePlace_31 : decode M_MoveList_movePlace.2.1 31 = .ok (.iload_n 1, 1) := by decide +kernel
theorem d_MoveList_movePlace_32 : decode M_MoveList_movePlace.2.1 32 = .ok (.invokestatic 25, 3) := by decide +kernel
theorem d_MoveList_movePlace_35 : decode M_MoveList_movePlace.2.1 35 = .ok (.aload_n 0, 1) := by decide +kernel
theorem d_MoveList_movePlace_36 : decode M_MoveList_movePlace.2.1 36 = .ok (.getfield 9, 3) := by decide +kernel
theorem d_MoveList_movePlace_39 : decode M_MoveList_movePlace.2.1 39 = .ok (.iconst 0, 1) := by decide +kernel
theorem d_MoveList_movePlace_40 : decode M_MoveList_movePlace.2.1 40 = .ok (.iload_n 2, 1) := by decide +kernel
theorem d_MoveList_movePlace_41 : decode M_MoveList_movePlace.2.1 41 = .ok (.iastore, 1) := by decide +kernel
theorem d_MoveList_movePlace_42 : decode M_MoveList_movePlace.2.1 42 = .ok (.iload_n 2, 1) := by decide +kernel
theorem d_MoveList_movePlace_43 : decode M_MoveList_movePlace.2.1 43 = .ok (.ireturn, 1) := by decide +kernel
theorem d_Picker_init_0 : decode M_Picker_init.2.1 0 = .ok (.aload_n 0, 1) := by decide +kernel
theorem d_Picker_init_1 : decode M_Picker_init.2.1 1 = .ok (.invokespecial 3, 3) := by decide +kernel
theorem d_Picker_init_4 : decode M_Picker_init.2.1 4 = .ok (.aload_n 0, 1) := by decide +kernel
theorem d_Picker_init_5 : decode M_Picker_init.2.1 5 = .ok (.new 9, 3) := by decide +kernel
theorem d_Picker_init_8 : decode M_Picker_init.2.1 8 = .ok (.dup, 1) := by decide +kernel
theorem d_Picker_init_9 : decode M_Picker_init.2.1 9 = .ok (.invokespecial 11, 3) := by decide +kernel
theorem d_Picker_init_12 : decode M_Picker_init.2.1 12 = .ok (.putfield 12, 3) := by decide +kernel
theorem d_Picker_init_15 : decode M_Picker_init.2.1 15 = .ok (.aload_n 0, 1) := by decide +kernel
theorem d_Picker_init_16 : decode M_Picker_init.2.1 16 = .ok (.bipush 66, 2) := by decide +kernel
theorem d_Picker_init_18 : decode M_Picker_init.2.1 18 = .ok (.newarray .int, 2) := by decide +kernel
theorem d_Picker_init_20 : decode M_Picker_init.2.1 20 = .ok (.putfield 18, 3) := by decide +kernel
theorem d_Picker_init_23 : decode M_Picker_init.2.1 23 = .ok (.return_, 1) := by decide +kernel
theorem d_Picker_pickTables_0 : decode M_Picker_pickTables.2.1 0 = .ok (.aload_n 1, 1) := by decide +kernel
theorem d_Picker_pickTables_1 : decode M_Picker_pickTables.2.1 1 = .ok (.aload_n 1, 1) := by decide +kernel
theorem d_Picker_pickTables_2 : decode M_Picker_pickTables.2.1 2 = .ok (.getfield 22, 3) := by decide +kernel
theorem d_Picker_pickTables_5 : decode M_Picker_pickTables.2.1 5 = .ok (.bipush 8, 2) := by decide +kernel
theorem d_Picker_pickTables_7 : decode M_Picker_pickTables.2.1 7 = .ok (.iadd, 1) := by decide +kernel
theorem d_Picker_pickTables_8 : decode M_Picker_pickTables.2.1 8 = .ok (.iconst 1, 1) := by decide +kernel
theorem d_Picker_pickTables_9 : decode M_Picker_pickTables.2.1 9 = .ok (.isub, 1) := by decide +kernel
theorem d_Picker_pickTables_10 : decode M_Picker_pickTables.2.1 10 = .ok (.bipush 8, 2) := by decide +kernel
theorem d_Picker_pickTables_12 : decode M_Picker_pickTables.2.1 12 = .ok (.idiv, 1) := by decide +kernel
theorem d_Picker_pickTables_13 : decode M_Picker_pickTables.2.1 13 = .ok (.putfield 28, 3) := by decide +kernel
theorem d_Picker_pickTables_16 : decode M_Picker_pickTables.2.1 16 = .ok (.aload_n 1, 1) := by decide +kernel
theorem d_Picker_pickTables_17 : decode M_Picker_pickTables.2.1 17 = .ok (.aload_n 1, 1) := by decide +kernel
theorem d_Picker_pickTables_18 : decode M_Picker_pickTables.2.1 18 = .ok (.getfield 28, 3) := by decide +kernel
theorem d_Picker_pickTables_21 : decode M_Picker_pickTables.2.1 21 = .ok (.iconst 4, 1) := by decide +kernel
theorem d_Picker_pickTables_22 : decode M_Picker_pickTables.2.1 22 = .ok (.if_icmp .le 7, 3) := by decide +kernel
theorem d_Picker_pickTables_25 : decode M_Picker_pickTables.2.1 25 = .ok (.iconst 3, 1) := by decide +kernel
theorem d_Picker_pickTables_26 : decode M_Picker_pickTables.2.1 26 = .ok (.goto 4, 3) := by decide +kernel
theorem d_Picker_pickTables_29 : decode M_Picker_pickTables.2.1 29 = .ok (.iconst 2, 1) := by decide +kernel
theorem d_Picker_pickTables_30 : decode M_Picker_pickTables.2.1 30 = .ok (.putfield 31, 3) := by decide +kernel
theorem d_Picker_pickTables_33 : decode M_Picker_pickTables.2.1 33 = .ok (.iconst 0, 1) := by decide +kernel
theorem d_Picker_pickTables_34 : decode M_Picker_pickTables.2.1 34 = .ok (.istore_n 2, 1) := by decide +kernel
theorem d_Picker_pickTables_35 : decode M_Picker_pickTables.2.1 35 = .ok (.iload_n 2, 1) := by decide +kernel
theorem d_Picker_pickTables_36 : decode M_Picker_pickTables.2.1 36 = .ok (.aload_n 1, 1) := by decide +kernel
theorem d_Picker_pickTables_37 : decode M_Picker_pickTables.2.1 37 = .ok (.getfield 28, 3) := by decide +kernel
theorem d_Picker_pickTables_40 : decode M_Picker_pickTables.2.1 40 = .ok (.if_icmp .ge 21, 3) := by decide +kernel
theorem d_Picker_pickTables_43 : decode M_Picker_pickTables.2.1 43 = .ok (.aload_n 1, 1) := by decide +kernel
theorem d_Picker_pickTables_44 : decode M_Picker_pickTables.2.1 44 = .ok (.getfield 34, 3) := by decide +kernel
theorem d_Picker_pickTables_47 : decode M_Picker_pickTables.2.1 47 = .ok (.iload_n 2, 1) := by decide +kernel
theorem d_Picker_pickTables_48 : decode M_Picker_pickTables.2.1 48 = .ok (.iload_n 2, 1) := by decide +kernel
theorem d_Picker_pickTables_49 : decode M_Picker_pickTables.2.1 49 = .ok (.aload_n 1, 1) := by decide +kernel
theorem d_Picker_pickTables_50 : decode M_Picker_pickTables.2.1 50 = .ok (.getfield 31, 3) := by decide +kernel
theorem d_Picker_pickTables_53 : decode M_Picker_pickTables.2.1 53 = .ok (.irem, 1) := by decide +kernel
theorem d_Picker_pickTables_54 : decode M_Picker_pickTables.2.1 54 = .ok (.iastore, 1) := by decide +kernel
theorem d_Picker_pickTables_55 : decode M_Picker_pickTables.2.1 55 = .ok (.iinc 2 1, 3) := by decide +kernel
theorem d_Picker_pickTables_58 : decode M_Picker_pickTables.2.1 58 = .ok (.goto (-23), 3) := by decide +kernel
theorem d_Picker_pickTables_61 : decode M_Picker_pickTables.2.1 61 = .ok (.iconst 0, 1) := by decide +kernel
theorem d_Picker_pickTables_62 : decode M_Picker_pickTables.2.1 62 = .ok (.istore_n 2, 1) := by decide +kernel
theorem d_Picker_pickTables_63 : decode M_Picker_pickTables.2.1 63 = .ok (.iload_n 2, 1) := by decide +kernel
theorem d_Picker_pickTables_64 : decode M_Picker_pickTables.2.1 64 = .ok (.iconst 3, 1) := by decide +kernel
theorem d_Picker_pickTables_65 : decode M_Picker_pickTables.2.1 65 = .ok (.if_icmp .ge 80, 3) := by decide +kernel
theorem d_Picker_pickTables_68 : decode M_Picker_pickTables.2.1 68 = .ok (.iconst 0, 1) := by decide +kernel
theorem d_Picker_pickTables_69 : decode M_Picker_pickTables.2.1 69 = .ok (.istore_n 3, 1) := by decide +kernel
theorem d_Picker_pickTables_70 : decode M_Picker_pickTables.2.1 70 = .ok (.iload_n 3, 1) := by decide +kernel
theorem d_Picker_pickTables_71 : decode M_Picker_pickTables.2.1 71 = .ok (.aload_n 1, 1) := by decide +kernel
theorem d_Picker_pickTables_72 : decode M_Picker_pickTables.2.1 72 = .ok (.getfield 31, 3) := by decide +kernel
theorem d_Picker_pickTables_75 : decode M_Picker_pickTables.2.1 75 = .ok (.if_icmp .ge 36, 3) := by decide +kernel
theorem d_Picker_pickTables_78 : decode M_Picker_pickTables.2.1 78 = .ok (.aload_n 0, 1) := by decide +kernel
theorem d_Picker_pickTables_79 : decode M_Picker_pickTables.2.1 79 = .ok (.aload_n 1, 1) := by decide +kernel
theorem d_Picker_pickTables_80 : decode M_Picker_pickTables.2.1 80 = .ok (.iload_n 3, 1) := by decide +kernel
theorem d_Picker_pickTables_81 : decode M_Picker_pickTables.2.1 81 = .ok (.invokevirtual 37, 3) := by decide +kernel
theorem d_Picker_pickTables_84 : decode M_Picker_pickTables.2.1 84 = .ok (.aload_n 0, 1) := by decide +kernel
theorem d_Picker_pickTables_85 : decode M_Picker_pickTables.2.1 85 = .ok (.getfield 12, 3) := by decide +kernel
theorem d_Picker_pickTables_88 : decode M_Picker_pickTables.2.1 88 = .ok (.aload_n 0, 1) := by decide +kernel
theorem d_Picker_pickTables_89 : decode M_Picker_pickTables.2.1 89 = .ok (.getfield 18, 3) := by decide +kernel
theorem d_Picker_pickTables_92 : decode M_Picker_pickTables.2.1 92 = .ok (.aload_n 1, 1) := by decide +kernel
theorem d_Picker_pickTables_93 : decode M_Picker_pickTables.2.1 93 = .ok (.invokevirtual 41, 3) := by decide +kernel
theorem d_Picker_pickTables_96 : decode M_Picker_pickTables.2.1 96 = .ok (.aload_n 1, 1) := by decide +kernel
theorem d_Picker_pickTables_97 : decode M_Picker_pickTables.2.1 97 = .ok (.getfield 45, 3) := by decide +kernel
theorem d_Picker_pickTables_100 : decode M_Picker_pickTables.2.1 100 = .ok (.iload_n 3, 1) := by decide +kernel
theorem d_Picker_pickTables_101 : decode M_Picker_pickTables.2.1 101 = .ok (.aaload, 1) := by decide +kernel
theorem d_Picker_pickTables_102 : decode M_Picker_pickTables.2.1 102 = .ok (.invokevirtual 49, 3) := by decide +kernel
theorem d_Picker_pickTables_105 : decode M_Picker_pickTables.2.1 105 = .ok (.iinc 3 1, 3) := by decide +kernel
theorem d_Picker_pickTables_108 : decode M_Picker_pickTables.2.1 108 = .ok (.goto (-38), 3) := by decide +kernel
theorem d_Picker_pickTables_111 : decode M_Picker_pickTables.2.1 111 = .ok (.iconst 0, 1) := by decide +kernel
theorem d_Picker_pickTables_112 : decode M_Picker_pickTables.2.1 112 = .ok (.istore_n 3, 1) := by decide +kernel
theorem d_Picker_pickTables_113 : decode M_Picker_pickTables.2.1 113 = .ok (.iload_n 3, 1) := by decide +kernel
theorem d_Picker_pickTables_114 : decode M_Picker_pickTables.2.1 114 = .ok (.aload_n 1, 1) := by decide +kernel
theorem d_Picker_pickTables_115 : decode M_Picker_pickTables.2.1 115 = .ok (.getfield 28, 3) := by decide +kernel
theorem d_Picker_pickTables_118 : decode M_Picker_pickTables.2.1 118 = .ok (.if_icmp .ge 21, 3) := by decide +kernel
theorem d_Picker_pickTables_121 : decode M_Picker_pickTables.2.1 121 = .ok (.aload_n 1, 1) := by decide +kernel
theorem d_Picker_pickTables_122 : decode M_Picker_pickTables.2.1 122 = .ok (.getfield 34, 3) := by decide +kernel
theorem d_Picker_pickTables_125 : decode M_Picker_pickTables.2.1 125 = .ok (.iload_n 3, 1) := by decide +kernel
theorem d_Picker_pickTables_126 : decode M_Picker_pickTables.2.1 126 = .ok (.aload_n 0, 1) := by decide +kernel
theorem d_Picker_pickTables_127 : decode M_Picker_pickTables.2.1 127 = .ok (.aload_n 1, 1) := by decide +kernel
theorem d_Picker_pickTables_128 : decode M_Picker_pickTables.2.1 128 = .ok (.iload_n 3, 1) := by decide +kernel
theorem d_Picker_pickTables_129 : decode M_Picker_pickTables.2.1 129 = .ok (.invokevirtual 53, 3) := by decide +kernel
theorem d_Picker_pickTables_132 : decode M_Picker_pickTables.2.1 132 = .ok (.iastore, 1) := by decide +kernel
theorem d_Picker_pickTables_133 : decode M_Picker_pickTables.2.1 133 = .ok (.iinc 3 1, 3) := by decide +kernel
theorem d_Picker_pickTables_136 : decode M_Picker_pickTables.2.1 136 = .ok (.goto (-23), 3) := by decide +kernel
theorem d_Picker_pickTables_139 : decode M_Picker_pickTables.2.1 139 = .ok (.iinc 2 1, 3) := by decide +kernel
theorem d_Picker_pickTables_142 : decode M_Picker_pickTables.2.1 142 = .ok (.goto (-79), 3) := by decide +kernel
theorem d_Picker_pickTables_145 : decode M_Picker_pickTables.2.1 145 = .ok (.return_, 1) := by decide +kernel
theorem d_Picker_weigh_0 : decode M_Picker_weigh.2.1 0 = .ok (.aload_n 0, 1) := by decide +kernel
theorem d_Picker_weigh_1 : decode M_Picker_weigh.2.1 1 = .ok (.getfield 18, 3) := by decide +kernel
theorem d_Picker_weigh_4 : decode M_Picker_weigh.2.1 4 = .ok (.iconst 0, 1) := by decide +kernel
theorem d_Picker_weigh_5 : decode M_Picker_weigh.2.1 5 = .ok (.invokestatic 57, 3) := by decide +kernel
theorem d_Picker_weigh_8 : decode M_Picker_weigh.2.1 8 = .ok (.iconst 0, 1) := by decide +kernel
theorem d_Picker_weigh_9 : decode M_Picker_weigh.2.1 9 = .ok (.istore_n 3, 1) := by decide +kernel
theorem d_Picker_weigh_10 : decode M_Picker_weigh.2.1 10 = .ok (.iload_n 3, 1) := by decide +kernel
theorem d_Picker_weigh_11 : decode M_Picker_weigh.2.1 11 = .ok (.aload_n 1, 1) := by decide +kernel
theorem d_Picker_weigh_12 : decode M_Picker_weigh.2.1 12 = .ok (.getfield 22, 3) := by decide +kernel
theorem d_Picker_weigh_15 : decode M_Picker_weigh.2.1 15 = .ok (.if_icmp .ge 33, 3) := by decide +kernel
theorem d_Picker_weigh_18 : decode M_Picker_weigh.2.1 18 = .ok (.aload_n 1, 1) := by decide +kernel
theorem d_Picker_weigh_19 : decode M_Picker_weigh.2.1 19 = .ok (.iload_n 3, 1) := by decide +kernel
theorem d_Picker_weigh_20 : decode M_Picker_weigh.2.1 20 = .ok (.invokevirtual 63, 3) := by decide +kernel
theorem d_Picker_weigh_23 : decode M_Picker_weigh.2.1 23 = .ok (.iload_n 2, 1) := by decide +kernel
theorem d_Picker_weigh_24 : decode M_Picker_weigh.2.1 24 = .ok (.if_icmp .ne 18, 3) := by decide +kernel
theorem d_Picker_weigh_27 : decode M_Picker_weigh.2.1 27 = .ok (.aload_n 0, 1) := by decide +kernel
theorem d_Picker_weigh_28 : decode M_Picker_weigh.2.1 28 = .ok (.getfield 18, 3) := by decide +kernel
theorem d_Picker_weigh_31 : decode M_Picker_weigh.2.1 31 = .ok (.aload_n 1, 1) := by decide +kernel
theorem d_Picker_weigh_32 : decode M_Picker_weigh.2.1 32 = .ok (.getfield 67, 3) := by decide +kernel
theorem d_Picker_weigh_35 : decode M_Picker_weigh.2.1 35 = .ok (.iload_n 3, 1) := by decide +kernel
theorem d_Picker_weigh_36 : decode M_Picker_weigh.2.1 36 = .ok (.iaload, 1) := by decide +kernel
theorem d_Picker_weigh_37 : decode M_Picker_weigh.2.1 37 = .ok (.dup2, 1) := by decide +kernel
theorem d_Picker_weigh_38 : decode M_Picker_weigh.2.1 38 = .ok (.iaload, 1) := by decide +kernel
theorem d_Picker_weigh_39 : decode M_Picker_weigh.2.1 39 = .ok (.iconst 1, 1) := by decide +kernel
theorem d_Picker_weigh_40 : decode M_Picker_weigh.2.1 40 = .ok (.iadd, 1) := by decide +kernel
theorem d_Picker_weigh_41 : decode M_Picker_weigh.2.1 41 = .ok (.iastore, 1) := by decide +kernel
theorem d_Picker_weigh_42 : decode M_Picker_weigh.2.1 42 = .ok (.iinc 3 1, 3) := by decide +kernel
theorem d_Picker_weigh_45 : decode M_Picker_weigh.2.1 45 = .ok (.goto (-35), 3) := by decide +kernel
theorem d_Picker_weigh_48 : decode M_Picker_weigh.2.1 48 = .ok (.iconst 0, 1) := by decide +kernel
theorem d_Picker_weigh_49 : decode M_Picker_weigh.2.1 49 = .ok (.istore_n 3, 1) := by decide +kernel
theorem d_Picker_weigh_50 : decode M_Picker_weigh.2.1 50 = .ok (.iload_n 3, 1) := by decide +kernel
theorem d_Picker_weigh_51 : decode M_Picker_weigh.2.1 51 = .ok (.aload_n 0, 1) := by decide +kernel
theorem d_Picker_weigh_52 : decode M_Picker_weigh.2.1 52 = .ok (.getfield 18, 3) := by decide +kernel
theorem d_Picker_weigh_55 : decode M_Picker_weigh.2.1 55 = .ok (.arraylength, 1) := by decide +kernel
theorem d_Picker_weigh_56 : decode M_Picker_weigh.2.1 56 = .ok (.if_icmp .ge 25, 3) := by decide +kernel
theorem d_Picker_weigh_59 : decode M_Picker_weigh.2.1 59 = .ok (.aload_n 0, 1) := by decide +kernel
theorem d_Picker_weigh_60 : decode M_Picker_weigh.2.1 60 = .ok (.getfield 18, 3) := by decide +kernel
theorem d_Picker_weigh_63 : decode M_Picker_weigh.2.1 63 = .ok (.iload_n 3, 1) := by decide +kernel
theorem d_Picker_weigh_64 : decode M_Picker_weigh.2.1 64 = .ok (.aload_n 0, 1) := by decide +kernel
theorem d_Picker_weigh_65 : decode M_Picker_weigh.2.1 65 = .ok (.getfield 18, 3) := by decide +kernel
theorem d_Picker_weigh_68 : decode M_Picker_weigh.2.1 68 = .ok (.iload_n 3, 1) := by decide +kernel
theorem d_Picker_weigh_69 : decode M_Picker_weigh.2.1 69 = .ok (.iaload, 1) := by decide +kernel
theorem d_Picker_weigh_70 : decode M_Picker_weigh.2.1 70 = .ok (.iconst 1, 1) := by decide +kernel
theorem d_Picker_weigh_71 : decode M_Picker_weigh.2.1 71 = .ok (.invokestatic 70, 3) := by decide +kernel
theorem d_Picker_weigh_74 : decode M_Picker_weigh.2.1 74 = .ok (.iastore, 1) := by decide +kernel
theorem d_Picker_weigh_75 : decode M_Picker_weigh.2.1 75 = .ok (.iinc 3 1, 3) := by decide +kernel
theorem d_Picker_weigh_78 : decode M_Picker_weigh.2.1 78 = .ok (.goto (-28), 3) := by decide +kernel
theorem d_Picker_weigh_81 : decode M_Picker_weigh.2.1 81 = .ok (.return_, 1) := by decide +kernel
theorem d_Picker_cheapest_0 : decode M_Picker_cheapest.2.1 0 = .ok (.iconst 0, 1) := by decide +kernel
theorem d_Picker_cheapest_1 : decode M_Picker_cheapest.2.1 1 = .ok (.istore_n 3, 1) := by decide +kernel
theorem d_Picker_cheapest_2 : decode M_Picker_cheapest.2.1 2 = .ok (.iconst 1, 1) := by decide +kernel
theorem d_Picker_cheapest_3 : decode M_Picker_cheapest.2.1 3 = .ok (.istore 4, 2) := by decide +kernel
theorem d_Picker_cheapest_5 : decode M_Picker_cheapest.2.1 5 = .ok (.iload 4, 2) := by decide +kernel
theorem d_Picker_cheapest_7 : decode M_Picker_cheapest.2.1 7 = .ok (.aload_n 1, 1) := by decide +kernel
theorem d_Picker_cheapest_8 : decode M_Picker_cheapest.2.1 8 = .ok (.getfield 31, 3) := by decide +kernel
theorem d_Picker_cheapest_11 : decode M_Picker_cheapest.2.1 11 = .ok (.if_icmp .ge 30, 3) := by decide +kernel
theorem d_Picker_cheapest_14 : decode M_Picker_cheapest.2.1 14 = .ok (.aload_n 0, 1) := by decide +kernel
theorem d_Picker_cheapest_15 : decode M_Picker_cheapest.2.1 15 = .ok (.aload_n 1, 1) := by decide +kernel
theorem d_Picker_cheapest_16 : decode M_Picker_cheapest.2.1 16 = .ok (.iload_n 2, 1) := by decide +kernel
theorem d_Picker_cheapest_17 : decode M_Picker_cheapest.2.1 17 = .ok (.iload 4, 2) := by decide +kernel
theorem d_Picker_cheapest_19 : decode M_Picker_cheapest.2.1 19 = .ok (.invokevirtual 76, 3) := by decide +kernel
theorem d_Picker_cheapest_22 : decode M_Picker_cheapest.2.1 22 = .ok (.aload_n 0, 1) := by decide +kernel
theorem d_Picker_cheapest_23 : decode M_Picker_cheapest.2.1 23 = .ok (.aload_n 1, 1) := by decide +kernel
theorem d_Picker_cheapest_24 : decode M_Picker_cheapest.2.1 24 = .ok (.iload_n 2, 1) := by decide +kernel
theorem d_Picker_cheapest_25 : decode M_Picker_cheapest.2.1 25 = .ok (.iload_n 3, 1) := by decide +kernel
theorem d_Picker_cheapest_26 : decode M_Picker_cheapest.2.1 26 = .ok (.invokevirtual 76, 3) := by decide +kernel
theorem d_Picker_cheapest_29 : decode M_Picker_cheapest.2.1 29 = .ok (.if_icmp .ge 6, 3) := by decide +kernel
theorem d_Picker_cheapest_32 : decode M_Picker_cheapest.2.1 32 = .ok (.iload 4, 2) := by decide +kernel
theorem d_Picker_cheapest_34 : decode M_Picker_cheapest.2.1 34 = .ok (.istore_n 3, 1) := by decide +kernel
theorem d_Picker_cheapest_35 : decode M_Picker_cheapest.2.1 35 = .ok (.iinc 4 1, 3) := by decide +kernel
theorem d_Picker_cheapest_38 : decode M_Picker_cheapest.2.1 38 = .ok (.goto (-33), 3) := by decide +kernel
theorem d_Picker_cheapest_41 : decode M_Picker_cheapest.2.1 41 = .ok (.iload_n 3, 1) := by decide +kernel
theorem d_Picker_cheapest_42 : decode M_Picker_cheapest.2.1 42 = .ok (.ireturn, 1) := by decide +kernel
theorem d_Picker_cost_0 : decode M_Picker_cost.2.1 0 = .ok (.aload_n 1, 1) := by decide +kernel
theorem d_Picker_cost_1 : decode M_Picker_cost.2.1 1 = .ok (.getfield 22, 3) := by decide +kernel
theorem d_Picker_cost_4 : decode M_Picker_cost.2.1 4 = .ok (.bipush 8, 2) := by decide +kernel
theorem d_Picker_cost_6 : decode M_Picker_cost.2.1 6 = .ok (.iload_n 2, 1) := by decide +kernel
theorem d_Picker_cost_7 : decode M_Picker_cost.2.1 7 = .ok (.iconst 1, 1) := by decide +kernel
theorem d_Picker_cost_8 : decode M_Picker_cost.2.1 8 = .ok (.iadd, 1) := by decide +kernel
theorem d_Picker_cost_9 : decode M_Picker_cost.2.1 9 = .ok (.imul, 1) := by decide +kernel
theorem d_Picker_cost_10 : decode M_Picker_cost.2.1 10 = .ok (.invokestatic 80, 3) := by decide +kernel
theorem d_Picker_cost_13 : decode M_Picker_cost.2.1 13 = .ok (.istore 4, 2) := by decide +kernel
theorem d_Picker_cost_15 : decode M_Picker_cost.2.1 15 = .ok (.iconst 0, 1) := by decide +kernel
theorem d_Picker_cost_16 : decode M_Picker_cost.2.1 16 = .ok (.istore 5, 2) := by decide +kernel
theorem d_Picker_cost_18 : decode M_Picker_cost.2.1 18 = .ok (.bipush 8, 2) := by decide +kernel
theorem d_Picker_cost_20 : decode M_Picker_cost.2.1 20 = .ok (.iload_n 2, 1) := by decide +kernel
theorem d_Picker_cost_21 : decode M_Picker_cost.2.1 21 = .ok (.imul, 1) := by decide +kernel
theorem d_Picker_cost_22 : decode M_Picker_cost.2.1 22 = .ok (.istore 6, 2) := by decide +kernel
theorem d_Picker_cost_24 : decode M_Picker_cost.2.1 24 = .ok (.iload 6, 2) := by decide +kernel
theorem d_Picker_cost_26 : decode M_Picker_cost.2.1 26 = .ok (.iload 4, 2) := by decide +kernel
theorem d_Picker_cost_28 : decode M_Picker_cost.2.1 28 = .ok (.if_icmp .ge 28, 3) := by decide +kernel
theorem d_Picker_cost_31 : decode M_Picker_cost.2.1 31 = .ok (.iload 5, 2) := by decide +kernel
theorem d_Picker_cost_33 : decode M_Picker_cost.2.1 33 = .ok (.aload_n 1, 1) := by decide +kernel
theorem d_Picker_cost_34 : decode M_Picker_cost.2.1 34 = .ok (.getfield 45, 3) := by decide +kernel
theorem d_Picker_cost_37 : decode M_Picker_cost.2.1 37 = .ok (.iload_n 3, 1) := by decide +kernel
theorem d_Picker_cost_38 : decode M_Picker_cost.2.1 38 = .ok (.aaload, 1) := by decide +kernel
theorem d_Picker_cost_39 : decode M_Picker_cost.2.1 39 = .ok (.aload_n 1, 1) := by decide +kernel
theorem d_Picker_cost_40 : decode M_Picker_cost.2.1 40 = .ok (.getfield 67, 3) := by decide +kernel
theorem d_Picker_cost_43 : decode M_Picker_cost.2.1 43 = .ok (.iload 6, 2) := by decide +kernel
theorem d_Picker_cost_45 : decode M_Picker_cost.2.1 45 = .ok (.iaload, 1) := by decide +kernel
theorem d_Picker_cost_46 : decode M_Picker_cost.2.1 46 = .ok (.iaload, 1) := by decide +kernel
theorem d_Picker_cost_47 : decode M_Picker_cost.2.1 47 = .ok (.iadd, 1) := by decide +kernel
theorem d_Picker_cost_48 : decode M_Picker_cost.2.1 48 = .ok (.istore 5, 2) := by decide +kernel
theorem d_Picker_cost_50 : decode M_Picker_cost.2.1 50 = .ok (.iinc 6 1, 3) := by decide +kernel
theorem d_Picker_cost_53 : decode M_Picker_cost.2.1 53 = .ok (.goto (-29), 3) := by decide +kernel
theorem d_Picker_cost_56 : decode M_Picker_cost.2.1 56 = .ok (.iload 5, 2) := by decide +kernel
theorem d_Picker_cost_58 : decode M_Picker_cost.2.1 58 = .ok (.ireturn, 1) := by decide +kernel
theorem d_Row_init_0 : decode M_Row_init.2.1 0 = .ok (.aload_n 0, 1) := by decide +kernel
theorem d_Row_init_1 : decode M_Row_init.2.1 1 = .ok (.invokespecial 1, 3) := by decide +kernel
theorem d_Row_init_4 : decode M_Row_init.2.1 4 = .ok (.aload_n 0, 1) := by decide +kernel
theorem d_Row_init_5 : decode M_Row_init.2.1 5 = .ok (.iconst 0, 1) := by decide +kernel
theorem d_Row_init_6 : decode M_Row_init.2.1 6 = .ok (.putfield 7, 3) := by decide +kernel
theorem d_Row_init_9 : decode M_Row_init.2.1 9 = .ok (.aload_n 0, 1) := by decide +kernel
theorem d_Row_init_10 : decode M_Row_init.2.1 10 = .ok (.iload_n 1, 1) := by decide +kernel
theorem d_Row_init_11 : decode M_Row_init.2.1 11 = .ok (.newarray .int, 2) := by decide +kernel
theorem d_Row_init_13 : decode M_Row_init.2.1 13 = .ok (.putfield 13, 3) := by decide +kernel
theorem d_Row_init_16 : decode M_Row_init.2.1 16 = .ok (.return_, 1) := by decide +kernel
theorem d_Row_hasRoom_0 : decode M_Row_hasRoom.2.1 0 = .ok (.iload_n 1, 1) := by decide +kernel
theorem d_Row_hasRoom_1 : decode M_Row_hasRoom.2.1 1 = .ok (.aload_n 0, 1) := by decide +kernel
theorem d_Row_hasRoom_2 : decode M_Row_hasRoom.2.1 2 = .ok (.getfield 13, 3) := by decide +kernel
theorem d_Row_hasRoom_5 : decode M_Row_hasRoom.2.1 5 = .ok (.arraylength, 1) := by decide +kernel
theorem d_Row_hasRoom_6 : decode M_Row_hasRoom.2.1 6 = .ok (.aload_n 0, 1) := by decide +kernel
theorem d_Row_hasRoom_7 : decode M_Row_hasRoom.2.1 7 = .ok (.getfield 7, 3) := by decide +kernel
theorem d_Row_hasRoom_10 : decode M_Row_hasRoom.2.1 10 = .ok (.isub, 1) := by decide +kernel
theorem d_Row_hasRoom_11 : decode M_Row_hasRoom.2.1 11 = .ok (.if_icmp .gt 7, 3) := by decide +kernel
theorem d_Row_hasRoom_14 : decode M_Row_hasRoom.2.1 14 = .ok (.iconst 1, 1) := by decide +kernel
theorem d_Row_hasRoom_15 : decode M_Row_hasRoom.2.1 15 = .ok (.goto 4, 3) := by decide +kernel
theorem d_Row_hasRoom_18 : decode M_Row_hasRoom.2.1 18 = .ok (.iconst 0, 1) := by decide +kernel
theorem d_Row_hasRoom_19 : decode M_Row_hasRoom.2.1 19 = .ok (.ireturn, 1) := by decide +kernel
theorem d_Row_add_0 : decode M_Row_add.2.1 0 = .ok (.aload_n 0, 1) := by decide +kernel
theorem d_Row_add_1 : decode M_Row_add.2.1 1 = .ok (.getfield 7, 3) := by decide +kernel
theorem d_Row_add_4 : decode M_Row_add.2.1 4 = .ok (.aload_n 0, 1) := by decide +kernel
theorem d_Row_add_5 : decode M_Row_add.2.1 5 = .ok (.getfield 13, 3) := by decide +kernel
theorem d_Row_add_8 : decode M_Row_add.2.1 8 = .ok (.arraylength, 1) := by decide +kernel
theorem d_Row_add_9 : decode M_Row_add.2.1 9 = .ok (.if_icmp .ge 23, 3) := by decide +kernel
theorem d_Row_add_12 : decode M_Row_add.2.1 12 = .ok (.aload_n 0, 1) := by decide +kernel
theorem d_Row_add_13 : decode M_Row_add.2.1 13 = .ok (.getfield 13, 3) := by decide +kernel
theorem d_Row_add_16 : decode M_Row_add.2.1 16 = .ok (.aload_n 0, 1) := by decide +kernel
theorem d_Row_add_17 : decode M_Row_add.2.1 17 = .ok (.getfield 7, 3) := by decide +kernel
theorem d_Row_add_20 : decode M_Row_add.2.1 20 = .ok (.iload_n 1, 1) := by decide +kernel
theorem d_Row_add_21 : decode M_Row_add.2.1 21 = .ok (.iastore, 1) := by decide +kernel
theorem d_Row_add_22 : decode M_Row_add.2.1 22 = .ok (.aload_n 0, 1) := by decide +kernel
theorem d_Row_add_23 : decode M_Row_add.2.1 23 = .ok (.dup, 1) := by decide +kernel
theorem d_Row_add_24 : decode M_Row_add.2.1 24 = .ok (.getfield 7, 3) := by decide +kernel
theorem d_Row_add_27 : decode M_Row_add.2.1 27 = .ok (.iconst 1, 1) := by decide +kernel
theorem d_Row_add_28 : decode M_Row_add.2.1 28 = .ok (.iadd, 1) := by decide +kernel
theorem d_Row_add_29 : decode M_Row_add.2.1 29 = .ok (.putfield 7, 3) := by decide +kernel
theorem d_Row_add_32 : decode M_Row_add.2.1 32 = .ok (.return_, 1) := by decide +kernel
theorem d_Row_addAll_0 : decode M_Row_addAll.2.1 0 = .ok (.aload_n 0, 1) := by decide +kernel
theorem d_Row_addAll_1 : decode M_Row_addAll.2.1 1 = .ok (.aload_n 1, 1) := by decide +kernel
theorem d_Row_addAll_2 : decode M_Row_addAll.2.1 2 = .ok (.getfield 7, 3) := by decide +kernel
theorem d_Row_addAll_5 : decode M_Row_addAll.2.1 5 = .ok (.invokevirtual 17, 3) := by decide +kernel
theorem d_Row_addAll_8 : decode M_Row_addAll.2.1 8 = .ok (.ifCond .eq 36, 3) := by decide +kernel
theorem d_Row_addAll_11 : decode M_Row_addAll.2.1 11 = .ok (.aload_n 1, 1) := by decide +kernel
theorem d_Row_addAll_12 : decode M_Row_addAll.2.1 12 = .ok (.getfield 13, 3) := by decide +kernel
theorem d_Row_addAll_15 : decode M_Row_addAll.2.1 15 = .ok (.iconst 0, 1) := by decide +kernel
theorem d_Row_addAll_16 : decode M_Row_addAll.2.1 16 = .ok (.aload_n 0, 1) := by decide +kernel
theorem d_Row_addAll_17 : decode M_Row_addAll.2.1 17 = .ok (.getfield 13, 3) := by decide +kernel
theorem d_Row_addAll_20 : decode M_Row_addAll.2.1 20 = .ok (.aload_n 0, 1) := by decide +kernel
theorem d_Row_addAll_21 : decode M_Row_addAll.2.1 21 = .ok (.getfield 7, 3) := by decide +kernel
theorem d_Row_addAll_24 : decode M_Row_addAll.2.1 24 = .ok (.aload_n 1, 1) := by decide +kernel
theorem d_Row_addAll_25 : decode M_Row_addAll.2.1 25 = .ok (.getfield 7, 3) := by decide +kernel
theorem d_Row_addAll_28 : decode M_Row_addAll.2.1 28 = .ok (.invokestatic 21, 3) := by decide +kernel
theorem d_Row_addAll_31 : decode M_Row_addAll.2.1 31 = .ok (.aload_n 0, 1) := by decide +kernel
theorem d_Row_addAll_32 : decode M_Row_addAll.2.1 32 = .ok (.dup, 1) := by decide +kernel
theorem d_Row_addAll_33 : decode M_Row_addAll.2.1 33 = .ok (.getfield 7, 3) := by decide +kernel
theorem d_Row_addAll_36 : decode M_Row_addAll.2.1 36 = .ok (.aload_n 1, 1) := by decide +kernel
theorem d_Row_addAll_37 : decode M_Row_addAll.2.1 37 = .ok (.getfield 7, 3) := by decide +kernel
theorem d_Row_addAll_40 : decode M_Row_addAll.2.1 40 = .ok (.iadd, 1) := by decide +kernel
theorem d_Row_addAll_41 : decode M_Row_addAll.2.1 41 = .ok (.putfield 7, 3) := by decide +kernel
theorem d_Row_addAll_44 : decode M_Row_addAll.2.1 44 = .ok (.return_, 1) := by decide +kernel
theorem d_Row_cut_0 : decode M_Row_cut.2.1 0 = .ok (.iload_n 1, 1) := by decide +kernel
theorem d_Row_cut_1 : decode M_Row_cut.2.1 1 = .ok (.ifCond .lt 16, 3) := by decide +kernel
theorem d_Row_cut_4 : decode M_Row_cut.2.1 4 = .ok (.iload_n 1, 1) := by decide +kernel
theorem d_Row_cut_5 : decode M_Row_cut.2.1 5 = .ok (.aload_n 0, 1) := by decide +kernel
theorem d_Row_cut_6 : decode M_Row_cut.2.1 6 = .ok (.getfield 7, 3) := by decide +kernel
theorem d_Row_cut_9 : decode M_Row_cut.2.1 9 = .ok (.if_icmp .ge 8, 3) := by decide +kernel
theorem d_Row_cut_12 : decode M_Row_cut.2.1 12 = .ok (.aload_n 0, 1) := by decide +kernel
theorem d_Row_cut_13 : decode M_Row_cut.2.1 13 = .ok (.iload_n 1, 1) := by decide +kernel
theorem d_Row_cut_14 : decode M_Row_cut.2.1 14 = .ok (.putfield 7, 3) := by decide +kernel
theorem d_Row_cut_17 : decode M_Row_cut.2.1 17 = .ok (.return_, 1) := by decide +kernel
theorem d_Row_get_0 : decode M_Row_get.2.1 0 = .ok (.iload_n 1, 1) := by decide +kernel
theorem d_Row_get_1 : decode M_Row_get.2.1 1 = .ok (.ifCond .lt 20, 3) := by decide +kernel
theorem d_Row_get_4 : decode M_Row_get.2.1 4 = .ok (.iload_n 1, 1) := by decide +kernel
theorem d_Row_get_5 : decode M_Row_get.2.1 5 = .ok (.aload_n 0, 1) := by decide +kernel
theorem d_Row_get_6 : decode M_Row_get.2.1 6 = .ok (.getfield 7, 3) := by decide +kernel
theorem d_Row_get_9 : decode M_Row_get.2.1 9 = .ok (.if_icmp .ge 12, 3) := by decide +kernel
theorem d_Row_get_12 : decode M_Row_get.2.1 12 = .ok (.aload_n 0, 1) := by decide +kernel
theorem d_Row_get_13 : decode M_Row_get.2.1 13 = .ok (.getfield 13, 3) := by decide +kernel
theorem d_Row_get_16 : decode M_Row_get.2.1 16 = .ok (.iload_n 1, 1) := by decide +kernel
theorem d_Row_get_17 : decode M_Row_get.2.1 17 = .ok (.iaload, 1) := by decide +kernel
theorem d_Row_get_18 : decode M_Row_get.2.1 18 = .ok (.goto 4, 3) := by decide +kernel
theorem d_Row_get_21 : decode M_Row_get.2.1 21 = .ok (.iconst 0, 1) := by decide +kernel
theorem d_Row_get_22 : decode M_Row_get.2.1 22 = .ok (.ireturn, 1) := by decide +kernel
theorem d_Row_turnBit_0 : decode M_Row_turnBit.2.1 0 = .ok (.iload_n 1, 1) := by decide +kernel
theorem d_Row_turnBit_1 : decode M_Row_turnBit.2.1 1 = .ok (.ifCond .lt 35, 3) := by decide +kernel
theorem d_Row_turnBit_4 : decode M_Row_turnBit.2.1 4 = .ok (.iload_n 1, 1) := by decide +kernel
theorem d_Row_turnBit_5 : decode M_Row_turnBit.2.1 5 = .ok (.bipush 8, 2) := by decide +kernel
theorem d_Row_turnBit_7 : decode M_Row_turnBit.2.1 7 = .ok (.idiv, 1) := by decide +kernel
theorem d_Row_turnBit_8 : decode M_Row_turnBit.2.1 8 = .ok (.aload_n 0, 1) := by decide +kernel
theorem d_Row_turnBit_9 : decode M_Row_turnBit.2.1 9 = .ok (.getfield 7, 3) := by decide +kernel
theorem d_Row_turnBit_12 : decode M_Row_turnBit.2.1 12 = .ok (.if_icmp .ge 24, 3) := by decide +kernel
theorem d_Row_turnBit_15 : decode M_Row_turnBit.2.1 15 = .ok (.aload_n 0, 1) := by decide +kernel
theorem d_Row_turnBit_16 : decode M_Row_turnBit.2.1 16 = .ok (.getfield 13, 3) := by decide +kernel
theorem d_Row_turnBit_19 : decode M_Row_turnBit.2.1 19 = .ok (.iload_n 1, 1) := by decide +kernel
theorem d_Row_turnBit_20 : decode M_Row_turnBit.2.1 20 = .ok (.bipush 8, 2) := by decide +kernel
theorem d_Row_turnBit_22 : decode M_Row_turnBit.2.1 22 = .ok (.idiv, 1) := by decide +kernel
theorem d_Row_turnBit_23 : decode M_Row_turnBit.2.1 23 = .ok (.dup2, 1) := by decide +kernel
theorem d_Row_turnBit_24 : decode M_Row_turnBit.2.1 24 = .ok (.iaload, 1) := by decide +kernel
theorem d_Row_turnBit_25 : decode M_Row_turnBit.2.1 25 = .ok (.iconst 1, 1) := by decide +kernel
theorem d_Row_turnBit_26 : decode M_Row_turnBit.2.1 26 = .ok (.bipush 7, 2) := by decide +kernel
theorem d_Row_turnBit_28 : decode M_Row_turnBit.2.1 28 = .ok (.iload_n 1, 1) := by decide +kernel
theorem d_Row_turnBit_29 : decode M_Row_turnBit.2.1 29 = .ok (.bipush 8, 2) := by decide +kernel
theorem d_Row_turnBit_31 : decode M_Row_turnBit.2.1 31 = .ok (.irem, 1) := by decide +kernel
theorem d_Row_turnBit_32 : decode M_Row_turnBit.2.1 32 = .ok (.isub, 1) := by decide +kernel
theorem d_Row_turnBit_33 : decode M_Row_turnBit.2.1 33 = .ok (.ishl, 1) := by decide +kernel
theorem d_Row_turnBit_34 : decode M_Row_turnBit.2.1 34 = .ok (.ixor, 1) := by decide +kernel
theorem d_Row_turnBit_35 : decode M_Row_turnBit.2.1 35 = .ok (.iastore, 1) := by decide +kernel
theorem d_Row_turnBit_36 : decode M_Row_turnBit.2.1 36 = .ok (.return_, 1) := by decide +kernel
theorem d_Trees_init_0 : decode M_Trees_init.2.1 0 = .ok (.aload_n 0, 1) := by decide +kernel
theorem d_Trees_init_1 : decode M_Trees_init.2.1 1 = .ok (.invokespecial 3, 3) := by decide +kernel
theorem d_Trees_init_4 : decode M_Trees_init.2.1 4 = .ok (.aload_n 0, 1) := by decide +kernel
theorem d_Trees_init_5 : decode M_Trees_init.2.1 5 = .ok (.sipush 132, 3) := by decide +kernel
theorem d_Trees_init_8 : decode M_Trees_init.2.1 8 = .ok (.newarray .int, 2) := by decide +kernel
theorem d_Trees_init_10 : decode M_Trees_init.2.1 10 = .ok (.putfield 11, 3) := by decide +kernel
theorem d_Trees_init_13 : decode M_Trees_init.2.1 13 = .ok (.aload_n 0, 1) := by decide +kernel
theorem d_Trees_init_14 : decode M_Trees_init.2.1 14 = .ok (.sipush 132, 3) := by decide +kernel
theorem d_Trees_init_17 : decode M_Trees_init.2.1 17 = .ok (.newarray .int, 2) := by decide +kernel
theorem d_Trees_init_19 : decode M_Trees_init.2.1 19 = .ok (.putfield 15, 3) := by decide +kernel
theorem d_Trees_init_22 : decode M_Trees_init.2.1 22 = .ok (.aload_n 0, 1) := by decide +kernel
theorem d_Trees_init_23 : decode M_Trees_init.2.1 23 = .ok (.sipush 132, 3) := by decide +kernel
theorem d_Trees_init_26 : decode M_Trees_init.2.1 26 = .ok (.newarray .int, 2) := by decide +kernel
theorem d_Trees_init_28 : decode M_Trees_init.2.1 28 = .ok (.putfield 18, 3) := by decide +kernel
theorem d_Trees_init_31 : decode M_Trees_init.2.1 31 = .ok (.aload_n 0, 1) := by decide +kernel
theorem d_Trees_init_32 : decode M_Trees_init.2.1 32 = .ok (.bipush 66, 2) := by decide +kernel
theorem d_Trees_init_34 : decode M_Trees_init.2.1 34 = .ok (.newarray .int, 2) := by decide +kernel
theorem d_Trees_init_36 : decode M_Trees_init.2.1 36 = .ok (.putfield 21, 3) := by decide +kernel
theorem d_Trees_init_39 : decode M_Trees_init.2.1 39 = .ok (.aload_n 0, 1) := by decide +kernel
theorem d_Trees_init_40 : decode M_Trees_init.2.1 40 = .ok (.iconst 0, 1) := by decide +kernel
theorem d_Trees_init_41 : decode M_Trees_init.2.1 41 = .ok (.putfield 24, 3) := by decide +kernel
theorem d_Trees_init_44 : decode M_Trees_init.2.1 44 = .ok (.aload_n 0, 1) := by decide +kernel
theorem d_Trees_init_45 : decode M_Trees_init.2.1 45 = .ok (.iconst 0, 1) := by decide +kernel
theorem d_Trees_init_46 : decode M_Trees_init.2.1 46 = .ok (.putfield 28, 3) := by decide +kernel
theorem d_Trees_init_49 : decode M_Trees_init.2.1 49 = .ok (.aload_n 0, 1) := by decide +kernel
theorem d_Trees_init_50 : decode M_Trees_init.2.1 50 = .ok (.iconst 0, 1) := by decide +kernel
theorem d_Trees_init_51 : decode M_Trees_init.2.1 51 = .ok (.putfield 31, 3) := by decide +kernel
theorem d_Trees_init_54 : decode M_Trees_init.2.1 54 = .ok (.return_, 1) := by decide +kernel
theorem d_Trees_findLengths_0 : decode M_Trees_findLengths.2.1 0 = .ok (.aload_n 0, 1) := by decide +kernel
theorem d_Trees_findLengths_1 : decode M_Trees_findLengths.2.1 1 = .ok (.iload_n 2, 1) := by decide +kernel
theorem d_Trees_findLengths_2 : decode M_Trees_findLengths.2.1 2 = .ok (.bipush 66, 2) := by decide +kernel
theorem d_Trees_findLengths_4 : decode M_Trees_findLengths.2.1 4 = .ok (.invokestatic 34, 3) := by decide +kernel
theorem d_Trees_findLengths_7 : decode M_Trees_findLengths.2.1 7 = .ok (.aload_n 1, 1) := by decide +kernel
theorem d_Trees_findLengths_8 : decode M_Trees_findLengths.2.1 8 = .ok (.arraylength, 1) := by decide +kernel
theorem d_Trees_findLengths_9 : decode M_Trees_findLengths.2.1 9 = .ok (.aload_n 3, 1) := by decide +kernel
theorem d_Trees_findLengths_10 : decode M_Trees_findLengths.2.1 10 = .ok (.arraylength, 1) := by decide +kernel
theorem d_Trees_findLengths_11 : decode M_Trees_findLengths.2.1 11 = .ok (.invokestatic 34, 3) := by decide +kernel
theorem d_Trees_findLengths_14 : decode M_Trees_findLengths.2.1 14 = .ok (.invokestatic 34, 3) := by decide +kernel
theorem d_Trees_findLengths_17 : decode M_Trees_findLengths.2.1 17 = .ok (.putfield 24, 3) := by decide +kernel
theorem d_Trees_findLengths_20 : decode M_Trees_findLengths.2.1 20 = .ok (.aload_n 0, 1) := by decide +kernel
theorem d_Trees_findLengths_21 : decode M_Trees_findLengths.2.1 21 = .ok (.getfield 24, 3) := by decide +kernel
theorem d_Trees_findLengths_24 : decode M_Trees_findLengths.2.1 24 = .ok (.iconst 1, 1) := by decide +kernel
theorem d_Trees_findLengths_25 : decode M_Trees_findLengths.2.1 25 = .ok (.if_icmp .ge 4, 3) := by decide +kernel
theorem d_Trees_findLengths_28 : decode M_Trees_findLengths.2.1 28 = .ok (.return_, 1) := by decide +kernel
theorem d_Trees_findLengths_29 : decode M_Trees_findLengths.2.1 29 = .ok (.aload_n 1, 1) := by decide +kernel
theorem d_Trees_findLengths_30 : decode M_Trees_findLengths.2.1 30 = .ok (.iconst 0, 1) := by decide +kernel
theorem d_Trees_findLengths_31 : decode M_Trees_findLengths.2.1 31 = .ok (.aload_n 0, 1) := by decide +kernel
theorem d_Trees_findLengths_32 : decode M_Trees_findLengths.2.1 32 = .ok (.getfield 11, 3) := by decide +kernel
theorem d_Trees_findLengths_35 : decode M_Trees_findLengths.2.1 35 = .ok (.iconst 0, 1) := by decide +kernel
theorem d_Trees_findLengths_36 : decode M_Trees_findLengths.2.1 36 = .ok (.aload_n 0, 1) := by decide +kernel
theorem d_Trees_findLengths_37 : decode M_Trees_findLengths.2.1 37 = .ok (.getfield 24, 3) := by decide +kernel
theorem d_Trees_findLengths_40 : decode M_Trees_findLengths.2.1 40 = .ok (.invokestatic 40, 3) := by decide +kernel
theorem d_Trees_findLengths_43 : decode M_Trees_findLengths.2.1 43 = .ok (.aload_n 0, 1) := by decide +kernel
theorem d_Trees_findLengths_44 : decode M_Trees_findLengths.2.1 44 = .ok (.invokevirtual 46, 3) := by decide +kernel
theorem d_Trees_findLengths_47 : decode M_Trees_findLengths.2.1 47 = .ok (.aload_n 0, 1) := by decide +kernel
theorem d_Trees_findLengths_48 : decode M_Trees_findLengths.2.1 48 = .ok (.invokevirtual 49, 3) := by decide +kernel
theorem d_Trees_findLengths_51 : decode M_Trees_findLengths.2.1 51 = .ok (.aload_n 0, 1) := by decide +kernel
theorem d_Trees_findLengths_52 : decode M_Trees_findLengths.2.1 52 = .ok (.invokevirtual 52, 3) := by decide +kernel
theorem d_Trees_findLengths_55 : decode M_Trees_findLengths.2.1 55 = .ok (.aload_n 0, 1) := by decide +kernel
theorem d_Trees_findLengths_56 : decode M_Trees_findLengths.2.1 56 = .ok (.getfield 18, 3) := by decide +kernel
theorem d_Trees_findLengths_59 : decode M_Trees_findLengths.2.1 59 = .ok (.iconst 0, 1) := by decide +kernel
theorem d_Trees_findLengths_60 : decode M_Trees_findLengths.2.1 60 = .ok (.aload_n 3, 1) := by decide +kernel
theorem d_Trees_findLengths_61 : decode M_Trees_findLengths.2.1 61 = .ok (.iconst 0, 1) := by decide +kernel
theorem d_Trees_findLengths_62 : decode M_Trees_findLengths.2.1 62 = .ok (.aload_n 0, 1) := by decide +kernel
theorem d_Trees_findLengths_63 : decode M_Trees_findLengths.2.1 63 = .ok (.getfield 24, 3) := by decide +kernel
theorem d_Trees_findLengths_66 : decode M_Trees_findLengths.2.1 66 = .ok (.invokestatic 40, 3) := by decide +kernel
theorem d_Trees_findLengths_69 : decode M_Trees_findLengths.2.1 69 = .ok (.return_, 1) := by decide +kernel
theorem d_Trees_sortSymbols_0 : decode M_Trees_sortSymbols.2.1 0 = .ok (.iconst 0, 1) := by decide +kernel
theorem d_Trees_sortSymbols_1 : decode M_Trees_sortSymbols.2.1 1 = .ok (.istore_n 1, 1) := by decide +kernel
theorem d_Trees_sortSymbols_2 : decode M_Trees_sortSymbols.2.1 2 = .ok (.iload_n 1, 1) := by decide +kernel
theorem d_Trees_sortSymbols_3 : decode M_Trees_sortSymbols.2.1 3 = .ok (.aload_n 0, 1) := by decide +kernel
theorem d_Trees_sortSymbols_4 : decode M_Trees_sortSymbols.2.1 4 = .ok (.getfield 24, 3) := by decide +kernel
theorem d_Trees_sortSymbols_7 : decode M_Trees_sortSymbols.2.1 7 = .ok (.if_icmp .ge 64, 3) := by decide +kernel
theorem d_Trees_sortSymbols_10 : decode M_Trees_sortSymbols.2.1 10 = .ok (.iload_n 1, 1) := by decide +kernel
theorem d_Trees_sortSymbols_11 : decode M_Trees_sortSymbols.2.1 11 = .ok (.istore_n 2, 1) := by decide +kernel
theorem d_Trees_sortSymbols_12 : decode M_Trees_sortSymbols.2.1 12 = .ok (.iload_n 2, 1) := by decide +kernel
theorem d_Trees_sortSymbols_13 : decode M_Trees_sortSymbols.2.1 13 = .ok (.ifCond .le 45, 3) := by decide +kernel
theorem d_Trees_sortSymbols_16 : decode M_Trees_sortSymbols.2.1 16 = .ok (.aload_n 0, 1) := by decide +kernel
theorem d_Trees_sortSymbols_17 : decode M_Trees_sortSymbols.2.1 17 = .ok (.getfield 11, 3) := by decide +kernel
theorem d_Trees_sortSymbols_20 : decode M_Trees_sortSymbols.2.1 20 = .ok (.aload_n 0, 1) := by decide +kernel
theorem d_Trees_sortSymbols_21 : decode M_Trees_sortSymbols.2.1 21 = .ok (.getfield 21, 3) := by decide +kernel
theorem d_Trees_sortSymbols_24 : decode M_Trees_sortSymbols.2.1 24 = .ok (.iload_n 2, 1) := by decide +kernel
theorem d_Trees_sortSymbols_25 : decode M_Trees_sortSymbols.2.1 25 = .ok (.iconst 1, 1) := by decide +kernel
theorem d_Trees_sortSymbols_26 : decode M_Trees_sortSymbols.2.1 26 = .ok (.isub, 1) := by decide +kernel
theorem d_Trees_sortSymbols_27 : decode M_Trees_sortSymbols.2.1 27 = .ok (.iaload, 1) := by decide +kernel
theorem d_Trees_sortSymbols_28 : decode M_Trees_sortSymbols.2.1 28 = .ok (.iaload, 1) := by decide +kernel
theorem d_Trees_sortSymbols_29 : decode M_Trees_sortSymbols.2.1 29 = .ok (.aload_n 0, 1) := by decide +kernel
theorem d_Trees_sortSymbols_30 : decode M_Trees_sortSymbols.2.1 30 = .ok (.getfield 11, 3) := by decide +kernel
theorem d_Trees_sortSymbols_33 : decode M_Trees_sortSymbols.2.1 33 = .ok (.iload_n 1, 1) := by decide +kernel
theorem d_Trees_sortSymbols_34 : decode M_Trees_sortSymbols.2.1 34 = .ok (.iaload, 1) := by decide +kernel
theorem d_Trees_sortSymbols_35 : decode M_Trees_sortSymbols.2.1 35 = .ok (.if_icmp .le 23, 3) := by decide +kernel
theorem d_Trees_sortSymbols_38 : decode M_Trees_sortSymbols.2.1 38 = .ok (.aload_n 0, 1) := by decide +kernel
theorem d_Trees_sortSymbols_39 : decode M_Trees_sortSymbols.2.1 39 = .ok (.getfield 21, 3) := by decide +kernel
theorem d_Trees_sortSymbols_42 : decode M_Trees_sortSymbols.2.1 42 = .ok (.iload_n 2, 1) := by decide +kernel
theorem d_Trees_sortSymbols_43 : decode M_Trees_sortSymbols.2.1 43 = .ok (.aload_n 0, 1) := by decide +kernel
theorem d_Trees_sortSymbols_44 : decode M_Trees_sortSymbols.2.1 44 = .ok (.getfield 21, 3) := by decide +kernel
theorem d_Trees_sortSymbols_47 : decode M_Trees_sortSymbols.2.1 47 = .ok (.iload_n 2, 1) := by decide +kernel
theorem d_Trees_sortSymbols_48 : decode M_Trees_sortSymbols.2.1 48 = .ok (.iconst 1, 1) := by decide +kernel
theorem d_Trees_sortSymbols_49 : decode M_Trees_sortSymbols.2.1 49 = .ok (.isub, 1) := by decide +kernel
theorem d_Trees_sortSymbols_50 : decode M_Trees_sortSymbols.2.1 50 = .ok (.iaload, 1) := by decide +kernel
theorem d_Trees_sortSymbols_51 : decode M_Trees_sortSymbols.2.1 51 = .ok (.iastore, 1) := by decide +kernel
theorem d_Trees_sortSymbols_52 : decode M_Trees_sortSymbols.2.1 52 = .ok (.iinc 2 (-1), 3) := by decide +kernel
theorem d_Trees_sortSymbols_55 : decode M_Trees_sortSymbols.2.1 55 = .ok (.goto (-43), 3) := by decide +kernel
theorem d_Trees_sortSymbols_58 : decode M_Trees_sortSymbols.2.1 58 = .ok (.aload_n 0, 1) := by decide +kernel
theorem d_Trees_sortSymbols_59 : decode M_Trees_sortSymbols.2.1 59 = .ok (.getfield 21, 3) := by decide +kernel
theorem d_Trees_sortSymbols_62 : decode M_Trees_sortSymbols.2.1 62 = .ok (.iload_n 2, 1) := by decide +kernel
theorem d_Trees_sortSymbols_63 : decode M_Trees_sortSymbols.2.1 63 = .ok (.iload_n 1, 1) := by decide +kernel
theorem d_Trees_sortSymbols_64 : decode M_Trees_sortSymbols.2.1 64 = .ok (.iastore, 1) := by decide +kernel
theorem d_Trees_sortSymbols_65 : decode M_Trees_sortSymbols.2.1 65 = .ok (.iinc 1 1, 3) := by decide +kernel
theorem d_Trees_sortSymbols_68 : decode M_Trees_sortSymbols.2.1 68 = .ok (.goto (-66), 3) := by decide +kernel
theorem d_Trees_sortSymbols_71 : decode M_Trees_sortSymbols.2.1 71 = .ok (.return_, 1) := by decide +kernel
theorem d_Trees_joinTrees_0 : decode M_Trees_joinTrees.2.1 0 = .ok (.aload_n 0, 1) := by decide +kernel
theorem d_Trees_joinTrees_1 : decode M_Trees_joinTrees.2.1 1 = .ok (.iconst 0, 1) := by decide +kernel
theorem d_Trees_joinTrees_2 : decode M_Trees_joinTrees.2.1 2 = .ok (.putfield 28, 3) := by decide +kernel
theorem d_Trees_joinTrees_5 : decode M_Trees_joinTrees.2.1 5 = .ok (.aload_n 0, 1) := by decide +kernel
theorem d_Trees_joinTrees_6 : decode M_Trees_joinTrees.2.1 6 = .ok (.aload_n 0, 1) := by decide +kernel
theorem d_Trees_joinTrees_7 : decode M_Trees_joinTrees.2.1 7 = .ok (.getfield 24, 3) := by decide +kernel
theorem d_Trees_joinTrees_10 : decode M_Trees_joinTrees.2.1 10 = .ok (.putfield 31, 3) := by decide +kernel
theorem d_Trees_joinTrees_13 : decode M_Trees_joinTrees.2.1 13 = .ok (.aload_n 0, 1) := by decide +kernel
theorem d_Trees_joinTrees_14 : decode M_Trees_joinTrees.2.1 14 = .ok (.getfield 24, 3) := by decide +kernel
theorem d_Trees_joinTrees_17 : decode M_Trees_joinTrees.2.1 17 = .ok (.istore_n 1, 1) := by decide +kernel
theorem d_Trees_joinTrees_18 : decode M_Trees_joinTrees.2.1 18 = .ok (.iload_n 1, 1) := by decide +kernel
theorem d_Trees_joinTrees_19 : decode M_Trees_joinTrees.2.1 19 = .ok (.iconst 2, 1) := by decide +kernel
theorem d_Trees_joinTrees_20 : decode M_Trees_joinTrees.2.1 20 = .ok (.aload_n 0, 1) := by decide +kernel
theorem d_Trees_joinTrees_21 : decode M_Trees_joinTrees.2.1 21 = .ok (.getfield 24, 3) := by decide +kernel
theorem d_Trees_joinTrees_24 : decode M_Trees_joinTrees.2.1 24 = .ok (.imul, 1) := by decide +kernel
theorem d_Trees_joinTrees_25 : decode M_Trees_joinTrees.2.1 25 = .ok (.iconst 1, 1) := by decide +kernel
theorem d_Trees_joinTrees_26 : decode M_Trees_joinTrees.2.1 26 = .ok (.isub, 1) := by decide +kernel
theorem d_Trees_joinTrees_27 : decode M_Trees_joinTrees.2.1 27 = .ok (.if_icmp .ge 54, 3) := by decide +kernel
theorem d_Trees_joinTrees_30 : decode M_Trees_joinTrees.2.1 30 = .ok (.aload_n 0, 1) := by decide +kernel
theorem d_Trees_joinTrees_31 : decode M_Trees_joinTrees.2.1 31 = .ok (.iload_n 1, 1) := by decide +kernel
theorem d_Trees_joinTrees_32 : decode M_Trees_joinTrees.2.1 32 = .ok (.invokevirtual 55, 3) := by decide +kernel
theorem d_Trees_joinTrees_35 : decode M_Trees_joinTrees.2.1 35 = .ok (.istore_n 2, 1) := by decide +kernel
theorem d_Trees_joinTrees_36 : decode M_Trees_joinTrees.2.1 36 = .ok (.aload_n 0, 1) := by decide +kernel
theorem d_Trees_joinTrees_37 : decode M_Trees_joinTrees.2.1 37 = .ok (.iload_n 1, 1) := by decide +kernel
theorem d_Trees_joinTrees_38 : decode M_Trees_joinTrees.2.1 38 = .ok (.invokevirtual 55, 3) := by decide +kernel
theorem d_Trees_joinTrees_41 : decode M_Trees_joinTrees.2.1 41 = .ok (.istore_n 3, 1) := by decide +kernel
theorem d_Trees_joinTrees_42 : decode M_Trees_joinTrees.2.1 42 = .ok (.aload_n 0, 1) := by decide +kernel
theorem d_Trees_joinTrees_43 : decode M_Trees_joinTrees.2.1 43 = .ok (.getfield 11, 3) := by decide +kernel
theorem d_Trees_joinTrees_46 : decode M_Trees_joinTrees.2.1 46 = .ok (.iload_n 1, 1) := by decide +kernel
theorem d_Trees_joinTrees_47 : decode M_Trees_joinTrees.2.1 47 = .ok (.aload_n 0, 1) := by decide +kernel
theorem d_Trees_joinTrees_48 : decode M_Trees_joinTrees.2.1 48 = .ok (.getfield 11, 3) := by decide +kernel
theorem d_Trees_joinTrees_51 : decode M_Trees_joinTrees.2.1 51 = .ok (.iload_n 2, 1) := by decide +kernel
theorem d_Trees_joinTrees_52 : decode M_Trees_joinTrees.2.1 52 = .ok (.iaload, 1) := by decide +kernel
theorem d_Trees_joinTrees_53 : decode M_Trees_joinTrees.2.1 53 = .ok (.aload_n 0, 1) := by decide +kernel
theorem d_Trees_joinTrees_54 : decode M_Trees_joinTrees.2.1 54 = .ok (.getfield 11, 3) := by decide +kernel
theorem d_Trees_joinTrees_57 : decode M_Trees_joinTrees.2.1 57 = .ok (.iload_n 3, 1) := by decide +kernel
theorem d_Trees_joinTrees_58 : decode M_Trees_joinTrees.2.1 58 = .ok (.iaload, 1) := by decide +kernel
theorem d_Trees_joinTrees_59 : decode M_Trees_joinTrees.2.1 59 = .ok (.iadd, 1) := by decide +kernel
theorem d_Trees_joinTrees_60 : decode M_Trees_joinTrees.2.1 60 = .ok (.iastore, 1) := by decide +kernel
theorem d_Trees_joinTrees_61 : decode M_Trees_joinTrees.2.1 61 = .ok (.aload_n 0, 1) := by decide +kernel
theorem d_Trees_joinTrees_62 : decode M_Trees_joinTrees.2.1 62 = .ok (.getfield 15, 3) := by decide +kernel
theorem d_Trees_joinTrees_65 : decode M_Trees_joinTrees.2.1 65 = .ok (.iload_n 2, 1) := by decide +kernel
theorem d_Trees_joinTrees_66 : decode M_Trees_joinTrees.2.1 66 = .ok (.iload_n 1, 1) := by decide +kernel
theorem d_Trees_joinTrees_67 : decode M_Trees_joinTrees.2.1 67 = .ok (.iastore, 1) := by decide +kernel
theorem d_Trees_joinTrees_68 : decode M_Trees_joinTrees.2.1 68 = .ok (.aload_n 0, 1) := by decide +kernel
theorem d_Trees_joinTrees_69 : decode M_Trees_joinTrees.2.1 69 = .ok (.getfield 15, 3) := by decide +kernel
theorem d_Trees_joinTrees_72 : decode M_Trees_joinTrees.2.1 72 = .ok (.iload_n 3, 1) := by decide +kernel
theorem d_Trees_joinTrees_73 : decode M_Trees_joinTrees.2.1 73 = .ok (.iload_n 1, 1) := by decide +kernel
theorem d_Trees_joinTrees_74 : decode M_Trees_joinTrees.2.1 74 = .ok (.iastore, 1) := by decide +kernel
theorem d_Trees_joinTrees_75 : decode M_Trees_joinTrees.2.1 75 = .ok (.iinc 1 1, 3) := by decide +kernel
theorem d_Trees_joinTrees_78 : decode M_Trees_joinTrees.2.1 78 = .ok (.goto (-60), 3) := by decide +kernel
theorem d_Trees_joinTrees_81 : decode M_Trees_joinTrees.2.1 81 = .ok (.return_, 1) := by decide +kernel
theorem d_Trees_takeFirst_0 : decode M_Trees_takeFirst.2.1 0 = .ok (.aload_n 0, 1) := by decide +kernel
theorem d_Trees_takeFirst_1 : decode M_Trees_takeFirst.2.1 1 = .ok (.getfield 28, 3) := by decide +kernel
theorem d_Trees_takeFirst_4 : decode M_Trees_takeFirst.2.1 4 = .ok (.aload_n 0, 1) := by decide +kernel
theorem d_Trees_takeFirst_5 : decode M_Trees_takeFirst.2.1 5 = .ok (.getfield 24, 3) := by decide +kernel
theorem d_Trees_takeFirst_8 : decode M_Trees_takeFirst.2.1 8 = .ok (.if_icmp .ge 7, 3) := by decide +kernel
theorem d_Trees_takeFirst_11 : decode M_Trees_takeFirst.2.1 11 = .ok (.iconst 1, 1) := by decide +kernel
theorem d_Trees_takeFirst_12 : decode M_Trees_takeFirst.2.1 12 = .ok (.goto 4, 3) := by decide +kernel
theorem d_Trees_takeFirst_15 : decode M_Trees_takeFirst.2.1 15 = .ok (.iconst 0, 1) := by decide +kernel
theorem d_Trees_takeFirst_16 : decode M_Trees_takeFirst.2.1 16 = .ok (.istore_n 2, 1) := by decide +kernel
theorem d_Trees_takeFirst_17 : decode M_Trees_takeFirst.2.1 17 = .ok (.aload_n 0, 1) := by decide +kernel
theorem d_Trees_takeFirst_18 : decode M_Trees_takeFirst.2.1 18 = .ok (.getfield 31, 3) := by decide +kernel
theorem d_Trees_takeFirst_21 : decode M_Trees_takeFirst.2.1 21 = .ok (.iload_n 1, 1) := by decide +kernel
theorem d_Trees_takeFirst_22 : decode M_Trees_takeFirst.2.1 22 = .ok (.if_icmp .ge 7, 3) := by decide +kernel
theorem d_Trees_takeFirst_25 : decode M_Trees_takeFirst.2.1 25 = .ok (.iconst 1, 1) := by decide +kernel
theorem d_Trees_takeFirst_26 : decode M_Trees_takeFirst.2.1 26 = .ok (.goto 4, 3) := by decide +kernel
theorem d_Trees_takeFirst_29 : decode M_Trees_takeFirst.2.1 29 = .ok (.iconst 0, 1) := by decide +kernel
theorem d_Trees_takeFirst_30 : decode M_Trees_takeFirst.2.1 30 = .ok (.istore_n 3, 1) := by decide +kernel
theorem d_Trees_takeFirst_31 : decode M_Trees_takeFirst.2.1 31 = .ok (.iload_n 2, 1) := by decide +kernel
theorem d_Trees_takeFirst_32 : decode M_Trees_takeFirst.2.1 32 = .ok (.ifCond .eq 55, 3) := by decide +kernel
theorem d_Trees_takeFirst_35 : decode M_Trees_takeFirst.2.1 35 = .ok (.iload_n 3, 1) := by decide +kernel
theorem d_Trees_takeFirst_36 : decode M_Trees_takeFirst.2.1 36 = .ok (.ifCond .eq 29, 3) := by decide +kernel
theorem d_Trees_takeFirst_39 : decode M_Trees_takeFirst.2.1 39 = .ok (.aload_n 0, 1) := by decide +kernel
theorem d_Trees_takeFirst_40 : decode M_Trees_takeFirst.2.1 40 = .ok (.getfield 11, 3) := by decide +kernel
theorem d_Trees_takeFirst_43 : decode M_Trees_takeFirst.2.1 43 = .ok (.aload_n 0, 1) := by decide +kernel
theorem d_Trees_takeFirst_44 : decode M_Trees_takeFirst.2.1 44 = .ok (.getfield 21, 3) := by decide +kernel
theorem d_Trees_takeFirst_47 : decode M_Trees_takeFirst.2.1 47 = .ok (.aload_n 0, 1) := by decide +kernel
theorem d_Trees_takeFirst_48 : decode M_Trees_takeFirst.2.1 48 = .ok (.getfield 28, 3) := by decide +kernel
theorem d_Trees_takeFirst_51 : decode M_Trees_takeFirst.2.1 51 = .ok (.iaload, 1) := by decide +kernel
theorem d_Trees_takeFirst_52 : decode M_Trees_takeFirst.2.1 52 = .ok (.iaload, 1) := by decide +kernel
theorem d_Trees_takeFirst_53 : decode M_Trees_takeFirst.2.1 53 = .ok (.aload_n 0, 1) := by decide +kernel
theorem d_Trees_takeFirst_54 : decode M_Trees_takeFirst.2.1 54 = .ok (.getfield 11, 3) := by decide +kernel
theorem d_Trees_takeFirst_57 : decode M_Trees_takeFirst.2.1 57 = .ok (.aload_n 0, 1) := by decide +kernel
theorem d_Trees_takeFirst_58 : decode M_Trees_takeFirst.2.1 58 = .ok (.getfield 31, 3) := by decide +kernel
theorem d_Trees_takeFirst_61 : decode M_Trees_takeFirst.2.1 61 = .ok (.iaload, 1) := by decide +kernel
theorem d_Trees_takeFirst_62 : decode M_Trees_takeFirst.2.1 62 = .ok (.if_icmp .gt 25, 3) := by decide +kernel
theorem d_Trees_takeFirst_65 : decode M_Trees_takeFirst.2.1 65 = .ok (.aload_n 0, 1) := by decide +kernel
theorem d_Trees_takeFirst_66 : decode M_Trees_takeFirst.2.1 66 = .ok (.dup, 1) := by decide +kernel
theorem d_Trees_takeFirst_67 : decode M_Trees_takeFirst.2.1 67 = .ok (.getfield 28, 3) := by decide +kernel
theorem d_Trees_takeFirst_70 : decode M_Trees_takeFirst.2.1 70 = .ok (.iconst 1, 1) := by decide +kernel
theorem d_Trees_takeFirst_71 : decode M_Trees_takeFirst.2.1 71 = .ok (.iadd, 1) := by decide +kernel
theorem d_Trees_takeFirst_72 : decode M_Trees_takeFirst.2.1 72 = .ok (.putfield 28, 3) := by decide +kernel
theorem d_Trees_takeFirst_75 : decode M_Trees_takeFirst.2.1 75 = .ok (.aload_n 0, 1) := by decide +kernel
theorem d_Trees_takeFirst_76 : decode M_Trees_takeFirst.2.1 76 = .ok (.getfield 21, 3) := by decide +kernel
theorem d_Trees_takeFirst_79 : decode M_Trees_takeFirst.2.1 79 = .ok (.aload_n 0, 1) := by decide +kernel
theorem d_Trees_takeFirst_80 : decode M_Trees_takeFirst.2.1 80 = .ok (.getfield 28, 3) := by decide +kernel
theorem d_Trees_takeFirst_83 : decode M_Trees_takeFirst.2.1 83 = .ok (.iconst 1, 1) := by decide +kernel
theorem d_Trees_takeFirst_84 : decode M_Trees_takeFirst.2.1 84 = .ok (.isub, 1) := by decide +kernel
theorem d_Trees_takeFirst_85 : decode M_Trees_takeFirst.2.1 85 = .ok (.iaload, 1) := by decide +kernel
theorem d_Trees_takeFirst_86 : decode M_Trees_takeFirst.2.1 86 = .ok (.ireturn, 1) := by decide +kernel
theorem d_Trees_takeFirst_87 : decode M_Trees_takeFirst.2.1 87 = .ok (.iload_n 3, 1) := by decide +kernel
theorem d_Trees_takeFirst_88 : decode M_Trees_takeFirst.2.1 88 = .ok (.ifCond .ne 5, 3) := by decide +kernel
theorem d_Trees_takeFirst_91 : decode M_Trees_takeFirst.2.1 91 = .ok (.iconst 0, 1) := by decide +kernel
theorem d_Trees_takeFirst_92 : decode M_Trees_takeFirst.2.1 92 = .ok (.ireturn, 1) := by decide +kernel
theorem d_Trees_takeFirst_93 : decode M_Trees_takeFirst.2.1 93 = .ok (.aload_n 0, 1) := by decide +kernel
theorem d_Trees_takeFirst_94 : decode M_Trees_takeFirst.2.1 94 = .ok (.dup, 1) := by decide +kernel
theorem d_Trees_takeFirst_95 : decode M_Trees_takeFirst.2.1 95 = .ok (.getfield 31, 3) := by decide +kernel
theorem d_Trees_takeFirst_98 : decode M_Trees_takeFirst.2.1 98 = .ok (.iconst 1, 1) := by decide +kernel
theorem d_Trees_takeFirst_99 : decode M_Trees_takeFirst.2.1 99 = .ok (.iadd, 1) := by decide +kernel
theorem d_Trees_takeFirst_100 : decode M_Trees_takeFirst.2.1 100 = .ok (.putfield 31, 3) := by decide +kernel
theorem d_Trees_takeFirst_103 : decode M_Trees_takeFirst.2.1 103 = .ok (.aload_n 0, 1) := by decide +kernel
theorem d_Trees_takeFirst_104 : decode M_Trees_takeFirst.2.1 104 = .ok (.getfield 31, 3) := by decide +kernel
theorem d_Trees_takeFirst_107 : decode M_Trees_takeFirst.2.1 107 = .ok (.iconst 1, 1) := by decide +kernel
theorem d_Trees_takeFirst_108 : decode M_Trees_takeFirst.2.1 108 = .ok (.isub, 1) := by decide +kernel
theorem d_Trees_takeFirst_109 : decode M_Trees_takeFirst.2.1 109 = .ok (.ireturn, 1) := by decide +kernel
theorem d_Trees_measureDepths_0 : decode M_Trees_measureDepths.2.1 0 = .ok (.iconst 2, 1) := by decide +kernel
theorem d_Trees_measureDepths_1 : decode M_Trees_measureDepths.2.1 1 = .ok (.aload_n 0, 1) := by decide +kernel
theorem d_Trees_measureDepths_2 : decode M_Trees_measureDepths.2.1 2 = .ok (.getfield 24, 3) := by decide +kernel
theorem d_Trees_measureDepths_5 : decode M_Trees_measureDepths.2.1 5 = .ok (.imul, 1) := by decide +kernel
theorem d_Trees_measureDepths_6 : decode M_Trees_measureDepths.2.1 6 = .ok (.iconst 2, 1) := by decide +kernel
theorem d_Trees_measureDepths_7 : decode M_Trees_measureDepths.2.1 7 = .ok (.isub, 1) := by decide +kernel
theorem d_Trees_measureDepths_8 : decode M_Trees_measureDepths.2.1 8 = .ok (.istore_n 1, 1) := by decide +kernel
theorem d_Trees_measureDepths_9 : decode M_Trees_measureDepths.2.1 9 = .ok (.aload_n 0, 1) := by decide +kernel
theorem d_Trees_measureDepths_10 : decode M_Trees_measureDepths.2.1 10 = .ok (.getfield 18, 3) := by decide +kernel
theorem d_Trees_measureDepths_13 : decode M_Trees_measureDepths.2.1 13 = .ok (.iload_n 1, 1) := by decide +kernel
theorem d_Trees_measureDepths_14 : decode M_Trees_measureDepths.2.1 14 = .ok (.iconst 0, 1) := by decide +kernel
theorem d_Trees_measureDepths_15 : decode M_Trees_measureDepths.2.1 15 = .ok (.iastore, 1) := by decide +kernel
theorem d_Trees_measureDepths_16 : decode M_Trees_measureDepths.2.1 16 = .ok (.iload_n 1, 1) := by decide +kernel
theorem d_Trees_measureDepths_17 : decode M_Trees_measureDepths.2.1 17 = .ok (.iconst 1, 1) := by decide +kernel
theorem d_Trees_measureDepths_18 : decode M_Trees_measureDepths.2.1 18 = .ok (.isub, 1) := by decide +kernel
theorem d_Trees_measureDepths_19 : decode M_Trees_measureDepths.2.1 19 = .ok (.istore_n 2, 1) := by decide +kernel
theorem d_Trees_measureDepths_20 : decode M_Trees_measureDepths.2.1 20 = .ok (.iload_n 2, 1) := by decide +kernel
theorem d_Trees_measureDepths_21 : decode M_Trees_measureDepths.2.1 21 = .ok (.ifCond .lt 28, 3) := by decide +kernel
theorem d_Trees_measureDepths_24 : decode M_Trees_measureDepths.2.1 24 = .ok (.aload_n 0, 1) := by decide +kernel
theorem d_Trees_measureDepths_25 : decode M_Trees_measureDepths.2.1 25 = .ok (.getfield 18, 3) := by decide +kernel
theorem d_Trees_measureDepths_28 : decode M_Trees_measureDepths.2.1 28 = .ok (.iload_n 2, 1) := by decide +kernel
theorem d_Trees_measureDepths_29 : decode M_Trees_measureDepths.2.1 29 = .ok (.aload_n 0, 1) := by decide +kernel
theorem d_Trees_measureDepths_30 : decode M_Trees_measureDepths.2.1 30 = .ok (.getfield 18, 3) := by decide +kernel
theorem d_Trees_measureDepths_33 : decode M_Trees_measureDepths.2.1 33 = .ok (.aload_n 0, 1) := by decide +kernel
theorem d_Trees_measureDepths_34 : decode M_Trees_measureDepths.2.1 34 = .ok (.getfield 15, 3) := by decide +kernel
theorem d_Trees_measureDepths_37 : decode M_Trees_measureDepths.2.1 37 = .ok (.iload_n 2, 1) := by decide +kernel
theorem d_Trees_measureDepths_38 : decode M_Trees_measureDepths.2.1 38 = .ok (.iaload, 1) := by decide +kernel
theorem d_Trees_measureDepths_39 : decode M_Trees_measureDepths.2.1 39 = .ok (.iaload, 1) := by decide +kernel
theorem d_Trees_measureDepths_40 : decode M_Trees_measureDepths.2.1 40 = .ok (.iconst 1, 1) := by decide +kernel
theorem d_Trees_measureDepths_41 : decode M_Trees_measureDepths.2.1 41 = .ok (.iadd, 1) := by decide +kernel
theorem d_Trees_measureDepths_42 : decode M_Trees_measureDepths.2.1 42 = .ok (.iastore, 1) := by decide +kernel
theorem d_Trees_measureDepths_43 : decode M_Trees_measureDepths.2.1 43 = .ok (.iinc 2 (-1), 3) := by decide +kernel
theorem d_Trees_measureDepths_46 : decode M_Trees_measureDepths.2.1 46 = .ok (.goto (-26), 3) := by decide +kernel
theorem d_Trees_measureDepths_49 : decode M_Trees_measureDepths.2.1 49 = .ok (.return_, 1) := by decide +kernel
theorem d_Law_feed_0 : decode M_Law_feed.2.1 0 = .ok (.aload 4, 2) := by decide +kernel
theorem d_Law_feed_2 : decode M_Law_feed.2.1 2 = .ok (.iconst 0, 1) := by decide +kernel
theorem d_Law_feed_3 : decode M_Law_feed.2.1 3 = .ok (.aload_n 0, 1) := by decide +kernel
theorem d_Law_feed_4 : decode M_Law_feed.2.1 4 = .ok (.lload_n 1, 1) := by decide +kernel
theorem d_Law_feed_5 : decode M_Law_feed.2.1 5 = .ok (.iload_n 3, 1) := by decide +kernel
theorem d_Law_feed_6 : decode M_Law_feed.2.1 6 = .ok (.invokevirtual 7, 3) := by decide +kernel
theorem d_Law_feed_9 : decode M_Law_feed.2.1 9 = .ok (.i2l, 1) := by decide +kernel
theorem d_Law_feed_10 : decode M_Law_feed.2.1 10 = .ok (.lastore, 1) := by decide +kernel
theorem d_Law_feed_11 : decode M_Law_feed.2.1 11 = .ok (.goto 11, 3) := by decide +kernel
theorem d_Law_feed_14 : decode M_Law_feed.2.1 14 = .ok (.astore 5, 2) := by decide +kernel
theorem d_Law_feed_16 : decode M_Law_feed.2.1 16 = .ok (.iconst 1, 1) := by decide +kernel
theorem d_Law_feed_17 : decode M_Law_feed.2.1 17 = .ok (.ireturn, 1) := by decide +kernel
theorem d_Law_feed_18 : decode M_Law_feed.2.1 18 = .ok (.astore 5, 2) := by decide +kernel
theorem d_Law_feed_20 : decode M_Law_feed.2.1 20 = .ok (.iconst 2, 1) := by decide +kernel
theorem d_Law_feed_21 : decode M_Law_feed.2.1 21 = .ok (.ireturn, 1) := by decide +kernel
theorem d_Law_feed_22 : decode M_Law_feed.2.1 22 = .ok (.iconst 0, 1) := by decide +kernel
theorem d_Law_feed_23 : decode M_Law_feed.2.1 23 = .ok (.ireturn, 1) := by decide +kernel
theorem d_Law_keep_0 : decode M_Law_keep.2.1 0 = .ok (.aload_n 0, 1) := by decide +kernel
theorem d_Law_keep_1 : decode M_Law_keep.2.1 1 = .ok (.iload_n 1, 1) := by decide +kernel
theorem d_Law_keep_2 : decode M_Law_keep.2.1 2 = .ok (.invokevirtual 17, 3) := by decide +kernel
theorem d_Law_keep_5 : decode M_Law_keep.2.1 5 = .ok (.goto 6, 3) := by decide +kernel
theorem d_Law_keep_8 : decode M_Law_keep.2.1 8 = .ok (.astore_n 2, 1) := by decide +kernel
theorem d_Law_keep_9 : decode M_Law_keep.2.1 9 = .ok (.iconst 1, 1) := by decide +kernel
theorem d_Law_keep_10 : decode M_Law_keep.2.1 10 = .ok (.ireturn, 1) := by decide +kernel
theorem d_Law_keep_11 : decode M_Law_keep.2.1 11 = .ok (.iconst 0, 1) := by decide +kernel
theorem d_Law_keep_12 : decode M_Law_keep.2.1 12 = .ok (.ireturn, 1) := by decide +kernel
theorem d_Law_damage_0 : decode M_Law_damage.2.1 0 = .ok (.aload_n 0, 1) := by decide +kernel
theorem d_Law_damage_1 : decode M_Law_damage.2.1 1 = .ok (.iload_n 1, 1) := by decide +kernel
theorem d_Law_damage_2 : decode M_Law_damage.2.1 2 = .ok (.invokevirtual 21, 3) := by decide +kernel
theorem d_Law_damage_5 : decode M_Law_damage.2.1 5 = .ok (.goto 6, 3) := by decide +kernel
theorem d_Law_damage_8 : decode M_Law_damage.2.1 8 = .ok (.astore_n 2, 1) := by decide +kernel
theorem d_Law_damage_9 : decode M_Law_damage.2.1 9 = .ok (.iconst 1, 1) := by decide +kernel
theorem d_Law_damage_10 : decode M_Law_damage.2.1 10 = .ok (.ireturn, 1) := by decide +kernel
theorem d_Law_damage_11 : decode M_Law_damage.2.1 11 = .ok (.iconst 0, 1) := by decide +kernel
theorem d_Law_damage_12 : decode M_Law_damage.2.1 12 = .ok (.ireturn, 1) := by decide +kernel
theorem d_Law_append_0 : decode M_Law_append.2.1 0 = .ok (.aload_n 1, 1) := by decide +kernel
theorem d_Law_append_1 : decode M_Law_append.2.1 1 = .ok (.iconst 0, 1) := by decide +kernel
theorem d_Law_append_2 : decode M_Law_append.2.1 2 = .ok (.aload_n 0, 1) := by decide +kernel
theorem d_Law_append_3 : decode M_Law_append.2.1 3 = .ok (.invokevirtual 26, 3) := by decide +kernel
theorem d_Law_append_6 : decode M_Law_append.2.1 6 = .ok (.i2l, 1) := by decide +kernel
theorem d_Law_append_7 : decode M_Law_append.2.1 7 = .ok (.lastore, 1) := by decide +kernel
theorem d_Law_append_8 : decode M_Law_append.2.1 8 = .ok (.goto 6, 3) := by decide +kernel
theorem d_Law_append_11 : decode M_Law_append.2.1 11 = .ok (.astore_n 2, 1) := by decide +kernel
theorem d_Law_append_12 : decode M_Law_append.2.1 12 = .ok (.iconst 1, 1) := by decide +kernel
theorem d_Law_append_13 : decode M_Law_append.2.1 13 = .ok (.ireturn, 1) := by decide +kernel
theorem d_Law_append_14 : decode M_Law_append.2.1 14 = .ok (.iconst 0, 1) := by decide +kernel
theorem d_Law_append_15 : decode M_Law_append.2.1 15 = .ok (.ireturn, 1) := by decide +kernel
theorem d_Law_pack_0 : decode M_Law_pack.2.1 0 = .ok (.aload_n 2, 1) := by decide +kernel
theorem d_Law_pack_1 : decode M_Law_pack.2.1 1 = .ok (.iconst 0, 1) := by decide +kernel
theorem d_Law_pack_2 : decode M_Law_pack.2.1 2 = .ok (.aload_n 0, 1) := by decide +kernel
theorem d_Law_pack_3 : decode M_Law_pack.2.1 3 = .ok (.iload_n 1, 1) := by decide +kernel
theorem d_Law_pack_4 : decode M_Law_pack.2.1 4 = .ok (.invokevirtual 30, 3) := by decide +kernel
theorem d_Law_pack_7 : decode M_Law_pack.2.1 7 = .ok (.i2l, 1) := by decide +kernel
theorem d_Law_pack_8 : decode M_Law_pack.2.1 8 = .ok (.lastore, 1) := by decide +kernel
theorem d_Law_pack_9 : decode M_Law_pack.2.1 9 = .ok (.goto 6, 3) := by decide +kernel
theorem d_Law_pack_12 : decode M_Law_pack.2.1 12 = .ok (.astore_n 3, 1) := by decide +kernel
theorem d_Law_pack_13 : decode M_Law_pack.2.1 13 = .ok (.iconst 1, 1) := by decide +kernel
theorem d_Law_pack_14 : decode M_Law_pack.2.1 14 = .ok (.ireturn, 1) := by decide +kernel
theorem d_Law_pack_15 : decode M_Law_pack.2.1 15 = .ok (.iconst 0, 1) := by decide +kernel
theorem d_Law_pack_16 : decode M_Law_pack.2.1 16 = .ok (.ireturn, 1) := by decide +kernel
theorem d_Law_unpack_0 : decode M_Law_unpack.2.1 0 = .ok (.aload_n 1, 1) := by decide +kernel
theorem d_Law_unpack_1 : decode M_Law_unpack.2.1 1 = .ok (.iconst 0, 1) := by decide +kernel
theorem d_Law_unpack_2 : decode M_Law_unpack.2.1 2 = .ok (.aload_n 0, 1) := by decide +kernel
theorem d_Law_unpack_3 : decode M_Law_unpack.2.1 3 = .ok (.invokevirtual 34, 3) := by decide +kernel
theorem d_Law_unpack_6 : decode M_Law_unpack.2.1 6 = .ok (.i2l, 1) := by decide +kernel
theorem d_Law_unpack_7 : decode M_Law_unpack.2.1 7 = .ok (.lastore, 1) := by decide +kernel
theorem d_Law_unpack_8 : decode M_Law_unpack.2.1 8 = .ok (.goto 6, 3) := by decide +kernel
theorem d_Law_unpack_11 : decode M_Law_unpack.2.1 11 = .ok (.astore_n 2, 1) := by decide +kernel
theorem d_Law_unpack_12 : decode M_Law_unpack.2.1 12 = .ok (.iconst 1, 1) := by decide +kernel
theorem d_Law_unpack_13 : decode M_Law_unpack.2.1 13 = .ok (.ireturn, 1) := by decide +kernel
theorem d_Law_unpack_14 : decode M_Law_unpack.2.1 14 = .ok (.iconst 0, 1) := by decide +kernel
theorem d_Law_unpack_15 : decode M_Law_unpack.2.1 15 = .ok (.ireturn, 1) := by decide +kernel
theorem d_Law_out_0 : decode M_Law_out.2.1 0 = .ok (.aload_n 2, 1) := by decide +kernel
theorem d_Law_out_1 : decode M_Law_out.2.1 1 = .ok (.iconst 0, 1) := by decide +kernel
theorem d_Law_out_2 : decode M_Law_out.2.1 2 = .ok (.aload_n 0, 1) := by decide +kernel
theorem d_Law_out_3 : decode M_Law_out.2.1 3 = .ok (.iload_n 1, 1) := by decide +kernel
theorem d_Law_out_4 : decode M_Law_out.2.1 4 = .ok (.invokevirtual 39, 3) := by decide +kernel
theorem d_Law_out_7 : decode M_Law_out.2.1 7 = .ok (.i2l, 1) := by decide +kernel
theorem d_Law_out_8 : decode M_Law_out.2.1 8 = .ok (.lastore, 1) := by decide +kernel
theorem d_Law_out_9 : decode M_Law_out.2.1 9 = .ok (.goto 6, 3) := by decide +kernel
theorem d_Law_out_12 : decode M_Law_out.2.1 12 = .ok (.astore_n 3, 1) := by decide +kernel
theorem d_Law_out_13 : decode M_Law_out.2.1 13 = .ok (.iconst 1, 1) := by decide +kernel
theorem d_Law_out_14 : decode M_Law_out.2.1 14 = .ok (.ireturn, 1) := by decide +kernel
theorem d_Law_out_15 : decode M_Law_out.2.1 15 = .ok (.iconst 0, 1) := by decide +kernel
theorem d_Law_out_16 : decode M_Law_out.2.1 16 = .ok (.ireturn, 1) := by decide +kernel
theorem d_Law_law_0 : decode M_Law_law.2.1 0 = .ok (.new 8, 3) := by decide +kernel
theorem d_Law_law_3 : decode M_Law_law.2.1 3 = .ok (.dup, 1) := by decide +kernel
theorem d_Law_law_4 : decode M_Law_law.2.1 4 = .ok (.invokespecial 42, 3) := by decide +kernel
theorem d_Law_law_7 : decode M_Law_law.2.1 7 = .ok (.astore_n 1, 1) := by decide +kernel
theorem d_Law_law_8 : decode M_Law_law.2.1 8 = .ok (.new 43, 3) := by decide +kernel
theorem d_Law_law_11 : decode M_Law_law.2.1 11 = .ok (.dup, 1) := by decide +kernel
theorem d_Law_law_12 : decode M_Law_law.2.1 12 = .ok (.invokespecial 45, 3) := by decide +kernel
theorem d_Law_law_15 : decode M_Law_law.2.1 15 = .ok (.astore_n 2, 1) := by decide +kernel
theorem d_Law_law_16 : decode M_Law_law.2.1 16 = .ok (.iconst 1, 1) := by decide +kernel
theorem d_Law_law_17 : decode M_Law_law.2.1 17 = .ok (.newarray .long, 2) := by decide +kernel
theorem d_Law_law_19 : decode M_Law_law.2.1 19 = .ok (.astore_n 3, 1) := by decide +kernel
theorem d_Law_law_20 : decode M_Law_law.2.1 20 = .ok (.iconst 0, 1) := by decide +kernel
theorem d_Law_law_21 : decode M_Law_law.2.1 21 = .ok (.istore 4, 2) := by decide +kernel
theorem d_Law_law_23 : decode M_Law_law.2.1 23 = .ok (.iload 4, 2) := by decide +kernel
theorem d_Law_law_25 : decode M_Law_law.2.1 25 = .ok (.aload_n 0, 1) := by decide +kernel
theorem d_Law_law_26 : decode M_Law_law.2.1 26 = .ok (.arraylength, 1) := by decide +kernel
theorem d_Law_law_27 : decode M_Law_law.2.1 27 = .ok (.iconst 4, 1) := by decide +kernel
theorem d_Law_law_28 : decode M_Law_law.2.1 28 = .ok (.isub, 1) := by decide +kernel
theorem d_Law_law_29 : decode M_Law_law.2.1 29 = .ok (.if_icmp .gt 671, 3) := by decide +kernel
theorem d_Law_law_32 : decode M_Law_law.2.1 32 = .ok (.aload_n 0, 1) := by decide +kernel
theorem d_Law_law_33 : decode M_Law_law.2.1 33 = .ok (.iload 4, 2) := by decide +kernel
theorem d_Law_law_35 : decode M_Law_law.2.1 35 = .ok (.iaload, 1) := by decide +kernel
theorem d_Law_law_36 : decode M_Law_law.2.1 36 = .ok (.bipush 31, 2) := by decide +kernel
theorem d_Law_law_38 : decode M_Law_law.2.1 38 = .ok (.iand, 1) := by decide +kernel
theorem d_Law_law_39 : decode M_Law_law.2.1 39 = .ok (.tableswitch 655 0 16 #[81, 181, 217, 253, 297, 353, 397, 410, 423, 436, 449, 505, 518, 543, 568, 593, 630], 81) := by decide +kernel
theorem d_Law_law_120 : decode M_Law_law.2.1 120 = .ok (.aload_n 1, 1) := by decide +kernel
theorem d_Law_law_121 : decode M_Law_law.2.1 121 = .ok (.aload_n 0, 1) := by decide +kernel
theorem d_Law_law_122 : decode M_Law_law.2.1 122 = .ok (.iload 4, 2) := by decide +kernel
theorem d_Law_law_124 : decode M_Law_law.2.1 124 = .ok (.iconst 1, 1) := by decide +kernel
theorem d_Law_law_125 : decode M_Law_law.2.1 125 = .ok (.iadd, 1) := by decide +kernel
theorem d_Law_law_126 : decode M_Law_law.2.1 126 = .ok (.iaload, 1) := by decide +kernel
theorem d_Law_law_127 : decode M_Law_law.2.1 127 = .ok (.i2l, 1) := by decide +kernel
theorem d_Law_law_128 : decode M_Law_law.2.1 128 = .ok (.bipush 32, 2) := by decide +kernel
theorem d_Law_law_130 : decode M_Law_law.2.1 130 = .ok (.lshl, 1) := by decide +kernel
theorem d_Law_law_131 : decode M_Law_law.2.1 131 = .ok (.aload_n 0, 1) := by decide +kernel
theorem d_Law_law_132 : decode M_Law_law.2.1 132 = .ok (.iload 4, 2) := by decide +kernel
theorem d_Law_law_134 : decode M_Law_law.2.1 134 = .ok (.iconst 2, 1) := by decide +kernel
theorem d_Law_law_135 : decode M_Law_law.2.1 135 = .ok (.iadd, 1) := by decide +kernel
theorem d_Law_law_136 : decode M_Law_law.2.1 136 = .ok (.iaload, 1) := by decide +kernel
theorem d_Law_law_137 : decode M_Law_law.2.1 137 = .ok (.i2l, 1) := by decide +kernel
theorem d_Law_law_138 : decode M_Law_law.2.1 138 = .ok (.ldc2_w 46, 3) := by decide +kernel
theorem d_Law_law_141 : decode M_Law_law.2.1 141 = .ok (.land, 1) := by decide +kernel
theorem d_Law_law_142 : decode M_Law_law.2.1 142 = .ok (.lor, 1) := by decide +kernel
theorem d_Law_law_143 : decode M_Law_law.2.1 143 = .ok (.aload_n 0, 1) := by decide +kernel
theorem d_Law_law_144 : decode M_Law_law.2.1 144 = .ok (.iload 4, 2) := by decide +kernel
theorem d_Law_law_146 : decode M_Law_law.2.1 146 = .ok (.iconst 3, 1) := by decide +kernel
theorem d_Law_law_147 : decode M_Law_law.2.1 147 = .ok (.iadd, 1) := by decide +kernel
theorem d_Law_law_148 : decode M_Law_law.2.1 148 = .ok (.iaload, 1) := by decide +kernel
theorem d_Law_law_149 : decode M_Law_law.2.1 149 = .ok (.aload_n 3, 1) := by decide +kernel
theorem d_Law_law_150 : decode M_Law_law.2.1 150 = .ok (.invokestatic 48, 3) := by decide +kernel
theorem d_Law_law_153 : decode M_Law_law.2.1 153 = .ok (.istore 5, 2) := by decide +kernel
theorem d_Law_law_155 : decode M_Law_law.2.1 155 = .ok (.aload_n 2, 1) := by decide +kernel
theorem d_Law_law_156 : decode M_Law_law.2.1 156 = .ok (.aload_n 0, 1) := by decide +kernel
theorem d_Law_law_157 : decode M_Law_law.2.1 157 = .ok (.iload 4, 2) := by decide +kernel
theorem d_Law_law_159 : decode M_Law_law.2.1 159 = .ok (.iconst 1, 1) := by decide +kernel
theorem d_Law_law_160 : decode M_Law_law.2.1 160 = .ok (.iadd, 1) := by decide +kernel
theorem d_Law_law_161 : decode M_Law_law.2.1 161 = .ok (.iaload, 1) := by decide +kernel
theorem d_Law_law_162 : decode M_Law_law.2.1 162 = .ok (.i2l, 1) := by decide +kernel
theorem d_Law_law_163 : decode M_Law_law.2.1 163 = .ok (.bipush 32, 2) := by decide +kernel
theorem d_Law_law_165 : decode M_Law_law.2.1 165 = .ok (.lshl, 1) := by decide +kernel
theorem d_Law_law_166 : decode M_Law_law.2.1 166 = .ok (.aload_n 0, 1) := by decide +kernel
theorem d_Law_law_167 : decode M_Law_law.2.1 167 = .ok (.iload 4, 2) := by decide +kernel
theorem d_Law_law_169 : decode M_Law_law.2.1 169 = .ok (.iconst 2, 1) := by decide +kernel
theorem d_Law_law_170 : decode M_Law_law.2.1 170 = .ok (.iadd, 1) := by decide +kernel
theorem d_Law_law_171 : decode M_Law_law.2.1 171 = .ok (.iaload, 1) := by decide +kernel
theorem d_Law_law_172 : decode M_Law_law.2.1 172 = .ok (.i2l, 1) := by decide +kernel
theorem d_Law_law_173 : decode M_Law_law.2.1 173 = .ok (.ldc2_w 46, 3) := by decide +kernel
theorem d_Law_law_176 : decode M_Law_law.2.1 176 = .ok (.land, 1) := by decide +kernel
theorem d_Law_law_177 : decode M_Law_law.2.1 177 = .ok (.lor, 1) := by decide +kernel
theorem d_Law_law_178 : decode M_Law_law.2.1 178 = .ok (.aload_n 0, 1) := by decide +kernel
theorem d_Law_law_179 : decode M_Law_law.2.1 179 = .ok (.iload 4, 2) := by decide +kernel
theorem d_Law_law_181 : decode M_Law_law.2.1 181 = .ok (.iconst 3, 1) := by decide +kernel
theorem d_Law_law_182 : decode M_Law_law.2.1 182 = .ok (.iadd, 1) := by decide +kernel
theorem d_Law_law_183 : decode M_Law_law.2.1 183 = .ok (.iaload, 1) := by decide +kernel
theorem d_Law_law_184 : decode M_Law_law.2.1 184 = .ok (.invokevirtual 53, 3) := by decide +kernel
theorem d_Law_law_187 : decode M_Law_law.2.1 187 = .ok (.istore 6, 2) := by decide +kernel
theorem d_Law_law_189 : decode M_Law_law.2.1 189 = .ok (.aload_n 2, 1) := by decide +kernel
theorem d_Law_law_190 : decode M_Law_law.2.1 190 = .ok (.invokevirtual 54, 3) := by decide +kernel
theorem d_Law_law_193 : decode M_Law_law.2.1 193 = .ok (.iload 5, 2) := by decide +kernel
theorem d_Law_law_195 : decode M_Law_law.2.1 195 = .ok (.if_icmp .eq 5, 3) := by decide +kernel
theorem d_Law_law_198 : decode M_Law_law.2.1 198 = .ok (.iconst 0, 1) := by decide +kernel
theorem d_Law_law_199 : decode M_Law_law.2.1 199 = .ok (.ireturn, 1) := by decide +kernel
theorem d_Law_law_200 : decode M_Law_law.2.1 200 = .ok (.iload 5, 2) := by decide +kernel
theorem d_Law_law_202 : decode M_Law_law.2.1 202 = .ok (.ifCond .ne 15, 3) := by decide +kernel
theorem d_Law_law_205 : decode M_Law_law.2.1 205 = .ok (.aload_n 3, 1) := by decide +kernel
theorem d_Law_law_206 : decode M_Law_law.2.1 206 = .ok (.iconst 0, 1) := by decide +kernel
theorem d_Law_law_207 : decode M_Law_law.2.1 207 = .ok (.laload, 1) := by decide +kernel
theorem d_Law_law_208 : decode M_Law_law.2.1 208 = .ok (.iload 6, 2) := by decide +kernel
theorem d_Law_law_210 : decode M_Law_law.2.1 210 = .ok (.i2l, 1) := by decide +kernel
theorem d_Law_law_211 : decode M_Law_law.2.1 211 = .ok (.lcmp, 1) := by decide +kernel
theorem d_Law_law_212 : decode M_Law_law.2.1 212 = .ok (.ifCond .eq 5, 3) := by decide +kernel
theorem d_Law_law_215 : decode M_Law_law.2.1 215 = .ok (.iconst 0, 1) := by decide +kernel
theorem d_Law_law_216 : decode M_Law_law.2.1 216 = .ok (.ireturn, 1) := by decide +kernel
theorem d_Law_law_217 : decode M_Law_law.2.1 217 = .ok (.goto 477, 3) := by decide +kernel
theorem d_Law_law_220 : decode M_Law_law.2.1 220 = .ok (.aload_n 1, 1) := by decide +kernel
theorem d_Law_law_221 : decode M_Law_law.2.1 221 = .ok (.aload_n 0, 1) := by decide +kernel
theorem d_Law_law_222 : decode M_Law_law.2.1 222 = .ok (.iload 4, 2) := by decide +kernel
theorem d_Law_law_224 : decode M_Law_law.2.1 224 = .ok (.iconst 1, 1) := by decide +kernel
theorem d_Law_law_225 : decode M_Law_law.2.1 225 = .ok (.iadd, 1) := by decide +kernel
theorem d_Law_law_226 : decode M_Law_law.2.1 226 = .ok (.iaload, 1) := by decide +kernel
theorem d_Law_law_227 : decode M_Law_law.2.1 227 = .ok (.invokestatic 57, 3) := by decide +kernel
theorem d_Law_law_230 : decode M_Law_law.2.1 230 = .ok (.istore 5, 2) := by decide +kernel
theorem d_Law_law_232 : decode M_Law_law.2.1 232 = .ok (.aload_n 2, 1) := by decide +kernel
theorem d_Law_law_233 : decode M_Law_law.2.1 233 = .ok (.aload_n 0, 1) := by decide +kernel
theorem d_Law_law_234 : decode M_Law_law.2.1 234 = .ok (.iload 4, 2) := by decide +kernel
theorem d_Law_law_236 : decode M_Law_law.2.1 236 = .ok (.iconst 1, 1) := by decide +kernel
theorem d_Law_law_237 : decode M_Law_law.2.1 237 = .ok (.iadd, 1) := by decide +kernel
theorem d_Law_law_238 : decode M_Law_law.2.1 238 = .ok (.iaload, 1) := by decide +kernel
theorem d_Law_law_239 : decode M_Law_law.2.1 239 = .ok (.invokevirtual 60, 3) := by decide +kernel
theorem d_Law_law_242 : decode M_Law_law.2.1 242 = .ok (.aload_n 2, 1) := by decide +kernel
theorem d_Law_law_243 : decode M_Law_law.2.1 243 = .ok (.invokevirtual 54, 3) := by decide +kernel
theorem d_Law_law_246 : decode M_Law_law.2.1 246 = .ok (.iload 5, 2) := by decide +kernel
theorem d_Law_law_248 : decode M_Law_law.2.1 248 = .ok (.if_icmp .eq 5, 3) := by decide +kernel
theorem d_Law_law_251 : decode M_Law_law.2.1 251 = .ok (.iconst 0, 1) := by decide +kernel
theorem d_Law_law_252 : decode M_Law_law.2.1 252 = .ok (.ireturn, 1) := by decide +kernel
theorem d_Law_law_253 : decode M_Law_law.2.1 253 = .ok (.goto 441, 3) := by decide +kernel
theorem d_Law_law_256 : decode M_Law_law.2.1 256 = .ok (.aload_n 1, 1) := by decide +kernel
theorem d_Law_law_257 : decode M_Law_law.2.1 257 = .ok (.aload_n 0, 1) := by decide +kernel
theorem d_Law_law_258 : decode M_Law_law.2.1 258 = .ok (.iload 4, 2) := by decide +kernel
theorem d_Law_law_260 : decode M_Law_law.2.1 260 = .ok (.iconst 1, 1) := by decide +kernel
theorem d_Law_law_261 : decode M_Law_law.2.1 261 = .ok (.iadd, 1) := by decide +kernel
theorem d_Law_law_262 : decode M_Law_law.2.1 262 = .ok (.iaload, 1) := by decide +kernel
theorem d_Law_law_263 : decode M_Law_law.2.1 263 = .ok (.invokestatic 61, 3) := by decide +kernel
theorem d_Law_law_266 : decode M_Law_law.2.1 266 = .ok (.istore 5, 2) := by decide +kernel
theorem d_Law_law_268 : decode M_Law_law.2.1 268 = .ok (.aload_n 2, 1) := by decide +kernel
theorem d_Law_law_269 : decode M_Law_law.2.1 269 = .ok (.aload_n 0, 1) := by decide +kernel
theorem d_Law_law_270 : decode M_Law_law.2.1 270 = .ok (.iload 4, 2) := by decide +kernel
theorem d_Law_law_272 : decode M_Law_law.2.1 272 = .ok (.iconst 1, 1) := by decide +kernel
theorem d_Law_law_273 : decode M_Law_law.2.1 273 = .ok (.iadd, 1) := by decide +kernel
theorem d_Law_law_274 : decode M_Law_law.2.1 274 = .ok (.iaload, 1) := by decide +kernel
theorem d_Law_law_275 : decode M_Law_law.2.1 275 = .ok (.invokevirtual 63, 3) := by decide +kernel
theorem d_Law_law_278 : decode M_Law_law.2.1 278 = .ok (.aload_n 2, 1) := by decide +kernel
theorem d_Law_law_279 : decode M_Law_law.2.1 279 = .ok (.invokevirtual 54, 3) := by decide +kernel
theorem d_Law_law_282 : decode M_Law_law.2.1 282 = .ok (.iload 5, 2) := by decide +kernel
theorem d_Law_law_284 : decode M_Law_law.2.1 284 = .ok (.if_icmp .eq 5, 3) := by decide +kernel
theorem d_Law_law_287 : decode M_Law_law.2.1 287 = .ok (.iconst 0, 1) := by decide +kernel
theorem d_Law_law_288 : decode M_Law_law.2.1 288 = .ok (.ireturn, 1) := by decide +kernel
theorem d_Law_law_289 : decode M_Law_law.2.1 289 = .ok (.goto 405, 3) := by decide +kernel
theorem d_Law_law_292 : decode M_Law_law.2.1 292 = .ok (.aload_n 1, 1) := by decide +kernel
theorem d_Law_law_293 : decode M_Law_law.2.1 293 = .ok (.aload_n 3, 1) := by decide +kernel
theorem d_Law_law_294 : decode M_Law_law.2.1 294 = .ok (.invokestatic 64, 3) := by decide +kernel
theorem d_Law_law_297 : decode M_Law_law.2.1 297 = .ok (.istore 5, 2) := by decide +kernel
theorem d_Law_law_299 : decode M_Law_law.2.1 299 = .ok (.aload_n 2, 1) := by decide +kernel
theorem d_Law_law_300 : decode M_Law_law.2.1 300 = .ok (.invokevirtual 67, 3) := by decide +kernel
theorem d_Law_law_303 : decode M_Law_law.2.1 303 = .ok (.istore 6, 2) := by decide +kernel
theorem d_Law_law_305 : decode M_Law_law.2.1 305 = .ok (.aload_n 2, 1) := by decide +kernel
theorem d_Law_law_306 : decode M_Law_law.2.1 306 = .ok (.invokevirtual 54, 3) := by decide +kernel
theorem d_Law_law_309 : decode M_Law_law.2.1 309 = .ok (.iload 5, 2) := by decide +kernel
theorem d_Law_law_311 : decode M_Law_law.2.1 311 = .ok (.if_icmp .eq 5, 3) := by decide +kernel
theorem d_Law_law_314 : decode M_Law_law.2.1 314 = .ok (.iconst 0, 1) := by decide +kernel
theorem d_Law_law_315 : decode M_Law_law.2.1 315 = .ok (.ireturn, 1) := by decide +kernel
theorem d_Law_law_316 : decode M_Law_law.2.1 316 = .ok (.iload 5, 2) := by decide +kernel
theorem d_Law_law_318 : decode M_Law_law.2.1 318 = .ok (.ifCond .ne 15, 3) := by decide +kernel
theorem d_Law_law_321 : decode M_Law_law.2.1 321 = .ok (.aload_n 3, 1) := by decide +kernel
theorem d_Law_law_322 : decode M_Law_law.2.1 322 = .ok (.iconst 0, 1) := by decide +kernel
theorem d_Law_law_323 : decode M_Law_law.2.1 323 = .ok (.laload, 1) := by decide +kernel
theorem d_Law_law_324 : decode M_Law_law.2.1 324 = .ok (.iload 6, 2) := by decide +kernel
theorem d_Law_law_326 : decode M_Law_law.2.1 326 = .ok (.i2l, 1) := by decide +kernel
theorem d_Law_law_327 : decode M_Law_law.2.1 327 = .ok (.lcmp, 1) := by decide +kernel
theorem d_Law_law_328 : decode M_Law_law.2.1 328 = .ok (.ifCond .eq 5, 3) := by decide +kernel
theorem d_Law_law_331 : decode M_Law_law.2.1 331 = .ok (.iconst 0, 1) := by decide +kernel
theorem d_Law_law_332 : decode M_Law_law.2.1 332 = .ok (.ireturn, 1) := by decide +kernel
theorem d_Law_law_333 : decode M_Law_law.2.1 333 = .ok (.goto 361, 3) := by decide +kernel
theorem d_Law_law_336 : decode M_Law_law.2.1 336 = .ok (.aload_n 1, 1) := by decide +kernel
theorem d_Law_law_337 : decode M_Law_law.2.1 337 = .ok (.aload_n 0, 1) := by decide +kernel
theorem d_Law_law_338 : decode M_Law_law.2.1 338 = .ok (.iload 4, 2) := by decide +kernel
theorem d_Law_law_340 : decode M_Law_law.2.1 340 = .ok (.iconst 1, 1) := by decide +kernel
theorem d_Law_law_341 : decode M_Law_law.2.1 341 = .ok (.iadd, 1) := by decide +kernel
theorem d_Law_law_342 : decode M_Law_law.2.1 342 = .ok (.iaload, 1) := by decide +kernel
theorem d_Law_law_343 : decode M_Law_law.2.1 343 = .ok (.aload_n 3, 1) := by decide +kernel
theorem d_Law_law_344 : decode M_Law_law.2.1 344 = .ok (.invokestatic 68, 3) := by decide +kernel
theorem d_Law_law_347 : decode M_Law_law.2.1 347 = .ok (.istore 5, 2) := by decide +kernel
theorem d_Law_law_349 : decode M_Law_law.2.1 349 = .ok (.aload_n 2, 1) := by decide +kernel
theorem d_Law_law_350 : decode M_Law_law.2.1 350 = .ok (.aload_n 0, 1) := by decide +kernel
theorem d_Law_law_351 : decode M_Law_law.2.1 351 = .ok (.iload 4, 2) := by decide +kernel
theorem d_Law_law_353 : decode M_Law_law.2.1 353 = .ok (.iconst 1, 1) := by decide +kernel
theorem d_Law_law_354 : decode M_Law_law.2.1 354 = .ok (.iadd, 1) := by decide +kernel
theorem d_Law_law_355 : decode M_Law_law.2.1 355 = .ok (.iaload, 1) := by decide +kernel
theorem d_Law_law_356 : decode M_Law_law.2.1 356 = .ok (.invokevirtual 71, 3) := by decide +kernel
theorem d_Law_law_359 : decode M_Law_law.2.1 359 = .ok (.istore 6, 2) := by decide +kernel
theorem d_Law_law_361 : decode M_Law_law.2.1 361 = .ok (.aload_n 2, 1) := by decide +kernel
theorem d_Law_law_362 : decode M_Law_law.2.1 362 = .ok (.invokevirtual 54, 3) := by decide +kernel
theorem d_Law_law_365 : decode M_Law_law.2.1 365 = .ok (.iload 5, 2) := by decide +kernel
theorem d_Law_law_367 : decode M_Law_law.2.1 367 = .ok (.if_icmp .eq 5, 3) := by decide +kernel
theorem d_Law_law_370 : decode M_Law_law.2.1 370 = .ok (.iconst 0, 1) := by decide +kernel
theorem d_Law_law_371 : decode M_Law_law.2.1 371 = .ok (.ireturn, 1) := by decide +kernel
theorem d_Law_law_372 : decode M_Law_law.2.1 372 = .ok (.iload 5, 2) := by decide +kernel
theorem d_Law_law_374 : decode M_Law_law.2.1 374 = .ok (.ifCond .ne 15, 3) := by decide +kernel
theorem d_Law_law_377 : decode M_Law_law.2.1 377 = .ok (.aload_n 3, 1) := by decide +kernel
theorem d_Law_law_378 : decode M_Law_law.2.1 378 = .ok (.iconst 0, 1) := by decide +kernel
theorem d_Law_law_379 : decode M_Law_law.2.1 379 = .ok (.laload, 1) := by decide +kernel
theorem d_Law_law_380 : decode M_Law_law.2.1 380 = .ok (.iload 6, 2) := by decide +kernel
theorem d_Law_law_382 : decode M_Law_law.2.1 382 = .ok (.i2l, 1) := by decide +kernel
theorem d_Law_law_383 : decode M_Law_law.2.1 383 = .ok (.lcmp, 1) := by decide +kernel
theorem d_Law_law_384 : decode M_Law_law.2.1 384 = .ok (.ifCond .eq 5, 3) := by decide +kernel
theorem d_Law_law_387 : decode M_Law_law.2.1 387 = .ok (.iconst 0, 1) := by decide +kernel
theorem d_Law_law_388 : decode M_Law_law.2.1 388 = .ok (.ireturn, 1) := by decide +kernel
theorem d_Law_law_389 : decode M_Law_law.2.1 389 = .ok (.goto 305, 3) := by decide +kernel
theorem d_Law_law_392 : decode M_Law_law.2.1 392 = .ok (.aload_n 1, 1) := by decide +kernel
theorem d_Law_law_393 : decode M_Law_law.2.1 393 = .ok (.aload_n 3, 1) := by decide +kernel
theorem d_Law_law_394 : decode M_Law_law.2.1 394 = .ok (.invokestatic 72, 3) := by decide +kernel
theorem d_Law_law_397 : decode M_Law_law.2.1 397 = .ok (.istore 5, 2) := by decide +kernel
theorem d_Law_law_399 : decode M_Law_law.2.1 399 = .ok (.aload_n 2, 1) := by decide +kernel
theorem d_Law_law_400 : decode M_Law_law.2.1 400 = .ok (.invokevirtual 74, 3) := by decide +kernel
theorem d_Law_law_403 : decode M_Law_law.2.1 403 = .ok (.istore 6, 2) := by decide +kernel
theorem d_Law_law_405 : decode M_Law_law.2.1 405 = .ok (.aload_n 2, 1) := by decide +kernel
theorem d_Law_law_406 : decode M_Law_law.2.1 406 = .ok (.invokevirtual 54, 3) := by decide +kernel
theorem d_Law_law_409 : decode M_Law_law.2.1 409 = .ok (.iload 5, 2) := by decide +kernel
theorem d_Law_law_411 : decode M_Law_law.2.1 411 = .ok (.if_icmp .eq 5, 3) := by decide +kernel
theorem d_Law_law_414 : decode M_Law_law.2.1 414 = .ok (.iconst 0, 1) := by decide +kernel
theorem d_Law_law_415 : decode M_Law_law.2.1 415 = .ok (.ireturn, 1) := by decide +kernel
theorem d_Law_law_416 : decode M_Law_law.2.1 416 = .ok (.iload 5, 2) := by decide +kernel
theorem d_Law_law_418 : decode M_Law_law.2.1 418 = .ok (.ifCond .ne 15, 3) := by decide +kernel
theorem d_Law_law_421 : decode M_Law_law.2.1 421 = .ok (.aload_n 3, 1) := by decide +kernel
theorem d_Law_law_422 : decode M_Law_law.2.1 422 = .ok (.iconst 0, 1) := by decide +kernel
theorem d_Law_law_423 : decode M_Law_law.2.1 423 = .ok (.laload, 1) := by decide +kernel
theorem d_Law_law_424 : decode M_Law_law.2.1 424 = .ok (.iload 6, 2) := by decide +kernel
theorem d_Law_law_426 : decode M_Law_law.2.1 426 = .ok (.i2l, 1) := by decide +kernel
theorem d_Law_law_427 : decode M_Law_law.2.1 427 = .ok (.lcmp, 1) := by decide +kernel
theorem d_Law_law_428 : decode M_Law_law.2.1 428 = .ok (.ifCond .eq 5, 3) := by decide +kernel
theorem d_Law_law_431 : decode M_Law_law.2.1 431 = .ok (.iconst 0, 1) := by decide +kernel
theorem d_Law_law_432 : decode M_Law_law.2.1 432 = .ok (.ireturn, 1) := by decide +kernel
theorem d_Law_law_433 : decode M_Law_law.2.1 433 = .ok (.goto 261, 3) := by decide +kernel
theorem d_Law_law_436 : decode M_Law_law.2.1 436 = .ok (.aload_n 1, 1) := by decide +kernel
theorem d_Law_law_437 : decode M_Law_law.2.1 437 = .ok (.invokevirtual 75, 3) := by decide +kernel
theorem d_Law_law_440 : decode M_Law_law.2.1 440 = .ok (.aload_n 2, 1) := by decide +kernel
theorem d_Law_law_441 : decode M_Law_law.2.1 441 = .ok (.invokevirtual 78, 3) := by decide +kernel
theorem d_Law_law_444 : decode M_Law_law.2.1 444 = .ok (.if_icmp .eq 250, 3) := by decide +kernel
theorem d_Law_law_447 : decode M_Law_law.2.1 447 = .ok (.iconst 0, 1) := by decide +kernel
theorem d_Law_law_448 : decode M_Law_law.2.1 448 = .ok (.ireturn, 1) := by decide +kernel
theorem d_Law_law_449 : decode M_Law_law.2.1 449 = .ok (.aload_n 1, 1) := by decide +kernel
theorem d_Law_law_450 : decode M_Law_law.2.1 450 = .ok (.invokevirtual 79, 3) := by decide +kernel
theorem d_Law_law_453 : decode M_Law_law.2.1 453 = .ok (.aload_n 2, 1) := by decide +kernel
theorem d_Law_law_454 : decode M_Law_law.2.1 454 = .ok (.invokevirtual 82, 3) := by decide +kernel
theorem d_Law_law_457 : decode M_Law_law.2.1 457 = .ok (.if_icmp .eq 237, 3) := by decide +kernel
theorem d_Law_law_460 : decode M_Law_law.2.1 460 = .ok (.iconst 0, 1) := by decide +kernel
theorem d_Law_law_461 : decode M_Law_law.2.1 461 = .ok (.ireturn, 1) := by decide +kernel
theorem d_Law_law_462 : decode M_Law_law.2.1 462 = .ok (.aload_n 1, 1) := by decide +kernel
theorem d_Law_law_463 : decode M_Law_law.2.1 463 = .ok (.invokevirtual 83, 3) := by decide +kernel
theorem d_Law_law_466 : decode M_Law_law.2.1 466 = .ok (.aload_n 2, 1) := by decide +kernel
theorem d_Law_law_467 : decode M_Law_law.2.1 467 = .ok (.invokevirtual 86, 3) := by decide +kernel
theorem d_Law_law_470 : decode M_Law_law.2.1 470 = .ok (.if_icmp .eq 224, 3) := by decide +kernel
theorem d_Law_law_473 : decode M_Law_law.2.1 473 = .ok (.iconst 0, 1) := by decide +kernel
theorem d_Law_law_474 : decode M_Law_law.2.1 474 = .ok (.ireturn, 1) := by decide +kernel
theorem d_Law_law_475 : decode M_Law_law.2.1 475 = .ok (.aload_n 1, 1) := by decide +kernel
theorem d_Law_law_476 : decode M_Law_law.2.1 476 = .ok (.invokevirtual 87, 3) := by decide +kernel
theorem d_Law_law_479 : decode M_Law_law.2.1 479 = .ok (.aload_n 2, 1) := by decide +kernel
theorem d_Law_law_480 : decode M_Law_law.2.1 480 = .ok (.invokevirtual 90, 3) := by decide +kernel
theorem d_Law_law_483 : decode M_Law_law.2.1 483 = .ok (.if_icmp .eq 211, 3) := by decide +kernel
theorem d_Law_law_486 : decode M_Law_law.2.1 486 = .ok (.iconst 0, 1) := by decide +kernel
theorem d_Law_law_487 : decode M_Law_law.2.1 487 = .ok (.ireturn, 1) := by decide +kernel
theorem d_Law_law_488 : decode M_Law_law.2.1 488 = .ok (.aload_n 1, 1) := by decide +kernel
theorem d_Law_law_489 : decode M_Law_law.2.1 489 = .ok (.aload_n 0, 1) := by decide +kernel
theorem d_Law_law_490 : decode M_Law_law.2.1 490 = .ok (.iload 4, 2) := by decide +kernel
theorem d_Law_law_492 : decode M_Law_law.2.1 492 = .ok (.iconst 1, 1) := by decide +kernel
theorem d_Law_law_493 : decode M_Law_law.2.1 493 = .ok (.iadd, 1) := by decide +kernel
theorem d_Law_law_494 : decode M_Law_law.2.1 494 = .ok (.iaload, 1) := by decide +kernel
theorem d_Law_law_495 : decode M_Law_law.2.1 495 = .ok (.aload_n 3, 1) := by decide +kernel
theorem d_Law_law_496 : decode M_Law_law.2.1 496 = .ok (.invokestatic 91, 3) := by decide +kernel
theorem d_Law_law_499 : decode M_Law_law.2.1 499 = .ok (.istore 5, 2) := by decide +kernel
theorem d_Law_law_501 : decode M_Law_law.2.1 501 = .ok (.aload_n 2, 1) := by decide +kernel
theorem d_Law_law_502 : decode M_Law_law.2.1 502 = .ok (.aload_n 0, 1) := by decide +kernel
theorem d_Law_law_503 : decode M_Law_law.2.1 503 = .ok (.iload 4, 2) := by decide +kernel
theorem d_Law_law_505 : decode M_Law_law.2.1 505 = .ok (.iconst 1, 1) := by decide +kernel
theorem d_Law_law_506 : decode M_Law_law.2.1 506 = .ok (.iadd, 1) := by decide +kernel
theorem d_Law_law_507 : decode M_Law_law.2.1 507 = .ok (.iaload, 1) := by decide +kernel
theorem d_Law_law_508 : decode M_Law_law.2.1 508 = .ok (.invokevirtual 93, 3) := by decide +kernel
theorem d_Law_law_511 : decode M_Law_law.2.1 511 = .ok (.istore 6, 2) := by decide +kernel
theorem d_Law_law_513 : decode M_Law_law.2.1 513 = .ok (.aload_n 2, 1) := by decide +kernel
theorem d_Law_law_514 : decode M_Law_law.2.1 514 = .ok (.invokevirtual 54, 3) := by decide +kernel
theorem d_Law_law_517 : decode M_Law_law.2.1 517 = .ok (.iload 5, 2) := by decide +kernel
theorem d_Law_law_519 : decode M_Law_law.2.1 519 = .ok (.if_icmp .eq 5, 3) := by decide +kernel
theorem d_Law_law_522 : decode M_Law_law.2.1 522 = .ok (.iconst 0, 1) := by decide +kernel
theorem d_Law_law_523 : decode M_Law_law.2.1 523 = .ok (.ireturn, 1) := by decide +kernel
theorem d_Law_law_524 : decode M_Law_law.2.1 524 = .ok (.iload 5, 2) := by decide +kernel
theorem d_Law_law_526 : decode M_Law_law.2.1 526 = .ok (.ifCond .ne 15, 3) := by decide +kernel
theorem d_Law_law_529 : decode M_Law_law.2.1 529 = .ok (.aload_n 3, 1) := by decide +kernel
theorem d_Law_law_530 : decode M_Law_law.2.1 530 = .ok (.iconst 0, 1) := by decide +kernel
theorem d_Law_law_531 : decode M_Law_law.2.1 531 = .ok (.laload, 1) := by decide +kernel
theorem d_Law_law_532 : decode M_Law_law.2.1 532 = .ok (.iload 6, 2) := by decide +kernel
theorem d_Law_law_534 : decode M_Law_law.2.1 534 = .ok (.i2l, 1) := by decide +kernel
theorem d_Law_law_535 : decode M_Law_law.2.1 535 = .ok (.lcmp, 1) := by decide +kernel
theorem d_Law_law_536 : decode M_Law_law.2.1 536 = .ok (.ifCond .eq 5, 3) := by decide +kernel
theorem d_Law_law_539 : decode M_Law_law.2.1 539 = .ok (.iconst 0, 1) := by decide +kernel
theorem d_Law_law_540 : decode M_Law_law.2.1 540 = .ok (.ireturn, 1) := by decide +kernel
theorem d_Law_law_541 : decode M_Law_law.2.1 541 = .ok (.goto 153, 3) := by decide +kernel
theorem d_Law_law_544 : decode M_Law_law.2.1 544 = .ok (.aload_n 1, 1) := by decide +kernel
theorem d_Law_law_545 : decode M_Law_law.2.1 545 = .ok (.invokevirtual 94, 3) := by decide +kernel
theorem d_Law_law_548 : decode M_Law_law.2.1 548 = .ok (.aload_n 2, 1) := by decide +kernel
theorem d_Law_law_549 : decode M_Law_law.2.1 549 = .ok (.invokevirtual 97, 3) := by decide +kernel
theorem d_Law_law_552 : decode M_Law_law.2.1 552 = .ok (.if_icmp .eq 142, 3) := by decide +kernel
theorem d_Law_law_555 : decode M_Law_law.2.1 555 = .ok (.iconst 0, 1) := by decide +kernel
theorem d_Law_law_556 : decode M_Law_law.2.1 556 = .ok (.ireturn, 1) := by decide +kernel
theorem d_Law_law_557 : decode M_Law_law.2.1 557 = .ok (.aload_n 1, 1) := by decide +kernel
theorem d_Law_law_558 : decode M_Law_law.2.1 558 = .ok (.aload_n 0, 1) := by decide +kernel
theorem d_Law_law_559 : decode M_Law_law.2.1 559 = .ok (.iload 4, 2) := by decide +kernel
theorem d_Law_law_561 : decode M_Law_law.2.1 561 = .ok (.iconst 1, 1) := by decide +kernel
theorem d_Law_law_562 : decode M_Law_law.2.1 562 = .ok (.iadd, 1) := by decide +kernel
theorem d_Law_law_563 : decode M_Law_law.2.1 563 = .ok (.iaload, 1) := by decide +kernel
theorem d_Law_law_564 : decode M_Law_law.2.1 564 = .ok (.invokevirtual 98, 3) := by decide +kernel
theorem d_Law_law_567 : decode M_Law_law.2.1 567 = .ok (.aload_n 2, 1) := by decide +kernel
theorem d_Law_law_568 : decode M_Law_law.2.1 568 = .ok (.aload_n 0, 1) := by decide +kernel
theorem d_Law_law_569 : decode M_Law_law.2.1 569 = .ok (.iload 4, 2) := by decide +kernel
theorem d_Law_law_571 : decode M_Law_law.2.1 571 = .ok (.iconst 1, 1) := by decide +kernel
theorem d_Law_law_572 : decode M_Law_law.2.1 572 = .ok (.iadd, 1) := by decide +kernel
theorem d_Law_law_573 : decode M_Law_law.2.1 573 = .ok (.iaload, 1) := by decide +kernel
theorem d_Law_law_574 : decode M_Law_law.2.1 574 = .ok (.invokevirtual 101, 3) := by decide +kernel
theorem d_Law_law_577 : decode M_Law_law.2.1 577 = .ok (.if_icmp .eq 117, 3) := by decide +kernel
theorem d_Law_law_580 : decode M_Law_law.2.1 580 = .ok (.iconst 0, 1) := by decide +kernel
theorem d_Law_law_581 : decode M_Law_law.2.1 581 = .ok (.ireturn, 1) := by decide +kernel
theorem d_Law_law_582 : decode M_Law_law.2.1 582 = .ok (.aload_n 1, 1) := by decide +kernel
theorem d_Law_law_583 : decode M_Law_law.2.1 583 = .ok (.aload_n 0, 1) := by decide +kernel
theorem d_Law_law_584 : decode M_Law_law.2.1 584 = .ok (.iload 4, 2) := by decide +kernel
theorem d_Law_law_586 : decode M_Law_law.2.1 586 = .ok (.iconst 1, 1) := by decide +kernel
theorem d_Law_law_587 : decode M_Law_law.2.1 587 = .ok (.iadd, 1) := by decide +kernel
theorem d_Law_law_588 : decode M_Law_law.2.1 588 = .ok (.iaload, 1) := by decide +kernel
theorem d_Law_law_589 : decode M_Law_law.2.1 589 = .ok (.invokevirtual 102, 3) := by decide +kernel
theorem d_Law_law_592 : decode M_Law_law.2.1 592 = .ok (.aload_n 2, 1) := by decide +kernel
theorem d_Law_law_593 : decode M_Law_law.2.1 593 = .ok (.aload_n 0, 1) := by decide +kernel
theorem d_Law_law_594 : decode M_Law_law.2.1 594 = .ok (.iload 4, 2) := by decide +kernel
theorem d_Law_law_596 : decode M_Law_law.2.1 596 = .ok (.iconst 1, 1) := by decide +kernel
theorem d_Law_law_597 : decode M_Law_law.2.1 597 = .ok (.iadd, 1) := by decide +kernel
theorem d_Law_law_598 : decode M_Law_law.2.1 598 = .ok (.iaload, 1) := by decide +kernel
theorem d_Law_law_599 : decode M_Law_law.2.1 599 = .ok (.invokevirtual 105, 3) := by decide +kernel
theorem d_Law_law_602 : decode M_Law_law.2.1 602 = .ok (.if_icmp .eq 92, 3) := by decide +kernel
theorem d_Law_law_605 : decode M_Law_law.2.1 605 = .ok (.iconst 0, 1) := by decide +kernel
theorem d_Law_law_606 : decode M_Law_law.2.1 606 = .ok (.ireturn, 1) := by decide +kernel
theorem d_Law_law_607 : decode M_Law_law.2.1 607 = .ok (.aload_n 1, 1) := by decide +kernel
theorem d_Law_law_608 : decode M_Law_law.2.1 608 = .ok (.aload_n 0, 1) := by decide +kernel
theorem d_Law_law_609 : decode M_Law_law.2.1 609 = .ok (.iload 4, 2) := by decide +kernel
theorem d_Law_law_611 : decode M_Law_law.2.1 611 = .ok (.iconst 1, 1) := by decide +kernel
theorem d_Law_law_612 : decode M_Law_law.2.1 612 = .ok (.iadd, 1) := by decide +kernel
theorem d_Law_law_613 : decode M_Law_law.2.1 613 = .ok (.iaload, 1) := by decide +kernel
theorem d_Law_law_614 : decode M_Law_law.2.1 614 = .ok (.invokevirtual 106, 3) := by decide +kernel
theorem d_Law_law_617 : decode M_Law_law.2.1 617 = .ok (.aload_n 2, 1) := by decide +kernel
theorem d_Law_law_618 : decode M_Law_law.2.1 618 = .ok (.aload_n 0, 1) := by decide +kernel
theorem d_Law_law_619 : decode M_Law_law.2.1 619 = .ok (.iload 4, 2) := by decide +kernel
theorem d_Law_law_621 : decode M_Law_law.2.1 621 = .ok (.iconst 1, 1) := by decide +kernel
theorem d_Law_law_622 : decode M_Law_law.2.1 622 = .ok (.iadd, 1) := by decide +kernel
theorem d_Law_law_623 : decode M_Law_law.2.1 623 = .ok (.iaload, 1) := by decide +kernel
theorem d_Law_law_624 : decode M_Law_law.2.1 624 = .ok (.invokevirtual 109, 3) := by decide +kernel
theorem d_Law_law_627 : decode M_Law_law.2.1 627 = .ok (.if_icmp .eq 67, 3) := by decide +kernel
theorem d_Law_law_630 : decode M_Law_law.2.1 630 = .ok (.iconst 0, 1) := by decide +kernel
theorem d_Law_law_631 : decode M_Law_law.2.1 631 = .ok (.ireturn, 1) := by decide +kernel
theorem d_Law_law_632 : decode M_Law_law.2.1 632 = .ok (.aload_n 1, 1) := by decide +kernel
theorem d_Law_law_633 : decode M_Law_law.2.1 633 = .ok (.aload_n 0, 1) := by decide +kernel
theorem d_Law_law_634 : decode M_Law_law.2.1 634 = .ok (.iload 4, 2) := by decide +kernel
theorem d_Law_law_636 : decode M_Law_law.2.1 636 = .ok (.iconst 1, 1) := by decide +kernel
theorem d_Law_law_637 : decode M_Law_law.2.1 637 = .ok (.iadd, 1) := by decide +kernel
theorem d_Law_law_638 : decode M_Law_law.2.1 638 = .ok (.iaload, 1) := by decide +kernel
theorem d_Law_law_639 : decode M_Law_law.2.1 639 = .ok (.aload_n 0, 1) := by decide +kernel
theorem d_Law_law_640 : decode M_Law_law.2.1 640 = .ok (.iload 4, 2) := by decide +kernel
theorem d_Law_law_642 : decode M_Law_law.2.1 642 = .ok (.iconst 2, 1) := by decide +kernel
theorem d_Law_law_643 : decode M_Law_law.2.1 643 = .ok (.iadd, 1) := by decide +kernel
theorem d_Law_law_644 : decode M_Law_law.2.1 644 = .ok (.iaload, 1) := by decide +kernel
theorem d_Law_law_645 : decode M_Law_law.2.1 645 = .ok (.invokevirtual 110, 3) := by decide +kernel
theorem d_Law_law_648 : decode M_Law_law.2.1 648 = .ok (.aload_n 2, 1) := by decide +kernel
theorem d_Law_law_649 : decode M_Law_law.2.1 649 = .ok (.aload_n 0, 1) := by decide +kernel
theorem d_Law_law_650 : decode M_Law_law.2.1 650 = .ok (.iload 4, 2) := by decide +kernel
theorem d_Law_law_652 : decode M_Law_law.2.1 652 = .ok (.iconst 1, 1) := by decide +kernel
theorem d_Law_law_653 : decode M_Law_law.2.1 653 = .ok (.iadd, 1) := by decide +kernel
theorem d_Law_law_654 : decode M_Law_law.2.1 654 = .ok (.iaload, 1) := by decide +kernel
theorem d_Law_law_655 : decode M_Law_law.2.1 655 = .ok (.aload_n 0, 1) := by decide +kernel
theorem d_Law_law_656 : decode M_Law_law.2.1 656 = .ok (.iload 4, 2) := by decide +kernel
theorem d_Law_law_658 : decode M_Law_law.2.1 658 = .ok (.iconst 2, 1) := by decide +kernel
theorem d_Law_law_659 : decode M_Law_law.2.1 659 = .ok (.iadd, 1) := by decide +kernel
theorem d_Law_law_660 : decode M_Law_law.2.1 660 = .ok (.iaload, 1) := by decide +kernel
theorem d_Law_law_661 : decode M_Law_law.2.1 661 = .ok (.invokevirtual 114, 3) := by decide +kernel
theorem d_Law_law_664 : decode M_Law_law.2.1 664 = .ok (.if_icmp .eq 30, 3) := by decide +kernel
theorem d_Law_law_667 : decode M_Law_law.2.1 667 = .ok (.iconst 0, 1) := by decide +kernel
theorem d_Law_law_668 : decode M_Law_law.2.1 668 = .ok (.ireturn, 1) := by decide +kernel
theorem d_Law_law_669 : decode M_Law_law.2.1 669 = .ok (.aload_n 1, 1) := by decide +kernel
theorem d_Law_law_670 : decode M_Law_law.2.1 670 = .ok (.aload_n 0, 1) := by decide +kernel
theorem d_Law_law_671 : decode M_Law_law.2.1 671 = .ok (.iload 4, 2) := by decide +kernel
theorem d_Law_law_673 : decode M_Law_law.2.1 673 = .ok (.iconst 1, 1) := by decide +kernel
theorem d_Law_law_674 : decode M_Law_law.2.1 674 = .ok (.iadd, 1) := by decide +kernel
theorem d_Law_law_675 : decode M_Law_law.2.1 675 = .ok (.iaload, 1) := by decide +kernel
theorem d_Law_law_676 : decode M_Law_law.2.1 676 = .ok (.invokevirtual 115, 3) := by decide +kernel
theorem d_Law_law_679 : decode M_Law_law.2.1 679 = .ok (.aload_n 2, 1) := by decide +kernel
theorem d_Law_law_680 : decode M_Law_law.2.1 680 = .ok (.aload_n 0, 1) := by decide +kernel
theorem d_Law_law_681 : decode M_Law_law.2.1 681 = .ok (.iload 4, 2) := by decide +kernel
theorem d_Law_law_683 : decode M_Law_law.2.1 683 = .ok (.iconst 1, 1) := by decide +kernel
theorem d_Law_law_684 : decode M_Law_law.2.1 684 = .ok (.iadd, 1) := by decide +kernel
theorem d_Law_law_685 : decode M_Law_law.2.1 685 = .ok (.iaload, 1) := by decide +kernel
theorem d_Law_law_686 : decode M_Law_law.2.1 686 = .ok (.invokevirtual 118, 3) := by decide +kernel
theorem d_Law_law_689 : decode M_Law_law.2.1 689 = .ok (.if_icmp .eq 5, 3) := by decide +kernel
theorem d_Law_law_692 : decode M_Law_law.2.1 692 = .ok (.iconst 0, 1) := by decide +kernel
theorem d_Law_law_693 : decode M_Law_law.2.1 693 = .ok (.ireturn, 1) := by decide +kernel
theorem d_Law_law_694 : decode M_Law_law.2.1 694 = .ok (.iinc 4 4, 3) := by decide +kernel
theorem d_Law_law_697 : decode M_Law_law.2.1 697 = .ok (.goto (-674), 3) := by decide +kernel
theorem d_Law_law_700 : decode M_Law_law.2.1 700 = .ok (.iconst 1, 1) := by decide +kernel
theorem d_Law_law_701 : decode M_Law_law.2.1 701 = .ok (.ireturn, 1) := by decide +kernel
theorem d_Arrays_fill_0 : decode M_Arrays_fill.2.1 0 = .ok (.iconst 0, 1) := by decide +kernel
theorem d_Arrays_fill_1 : decode M_Arrays_fill.2.1 1 = .ok (.istore_n 2, 1) := by decide +kernel
theorem d_Arrays_fill_2 : decode M_Arrays_fill.2.1 2 = .ok (.aload_n 0, 1) := by decide +kernel
theorem d_Arrays_fill_3 : decode M_Arrays_fill.2.1 3 = .ok (.arraylength, 1) := by decide +kernel
theorem d_Arrays_fill_4 : decode M_Arrays_fill.2.1 4 = .ok (.istore_n 3, 1) := by decide +kernel
theorem d_Arrays_fill_5 : decode M_Arrays_fill.2.1 5 = .ok (.iload_n 2, 1) := by decide +kernel
theorem d_Arrays_fill_6 : decode M_Arrays_fill.2.1 6 = .ok (.iload_n 3, 1) := by decide +kernel
theorem d_Arrays_fill_7 : decode M_Arrays_fill.2.1 7 = .ok (.if_icmp .ge 13, 3) := by decide +kernel
theorem d_Arrays_fill_10 : decode M_Arrays_fill.2.1 10 = .ok (.aload_n 0, 1) := by decide +kernel
theorem d_Arrays_fill_11 : decode M_Arrays_fill.2.1 11 = .ok (.iload_n 2, 1) := by decide +kernel
theorem d_Arrays_fill_12 : decode M_Arrays_fill.2.1 12 = .ok (.iload_n 1, 1) := by decide +kernel
theorem d_Arrays_fill_13 : decode M_Arrays_fill.2.1 13 = .ok (.iastore, 1) := by decide +kernel
theorem d_Arrays_fill_14 : decode M_Arrays_fill.2.1 14 = .ok (.iinc 2 1, 3) := by decide +kernel
theorem d_Arrays_fill_17 : decode M_Arrays_fill.2.1 17 = .ok (.goto (-12), 3) := by decide +kernel
theorem d_Arrays_fill_20 : decode M_Arrays_fill.2.1 20 = .ok (.return_, 1) := by decide +kernel
end
section
/-! The layer: cells by numbers, ints and references by typed maps; X: the machine comes to its end from here; C: a method's contract. -/
abbrev zx_H : Type := (Nat × (Nat → Nat × Nat)) × (Nat → Nat → Int32) × (Nat → Nat → Nat) × (Nat → Nat → Int64)
abbrev zx_G : Type := ClassId × ClassId × ClassId × ClassId × ClassId
def zx_nul (α : Nat → Nat) (r : Nat) : Value := if r = 0 then .null else .ref (α r)
def zx_opt (α : Nat → Nat) (r : Nat) : Option Nat := if r = 0 then none else some (α r)
def zx_cv (α : Nat → Nat) (v : Value) : Value := match v with
  | .ref k => .ref (α k)
  | w => w
theorem zx_cv_cat (α : Nat → Nat) (v : Value) : (zx_cv α v).category = v.category := by cases v <;> rfl
def zx_fs (ft : List Bool) (α : Nat → Nat) (I : Nat → Int32) (R : Nat → Nat) : List Value := (List.range ft.length).map (fun j => if ft.getD j false = true then zx_nul α (R j) else .int (I j))
def zx_enc (G : zx_G) (α : Nat → Nat) (h : zx_H) (k : Nat) : va_E := match (h.1.2 k).1 with
  | 0 => .inl (G.1, (h.1.2 k).2, .inl (h.2.1 k))
  | 1 => .inl (G.2.1, (h.1.2 k).2, .inl (h.2.1 k))
  | 2 => .inl (G.2.2.1, (h.1.2 k).2, .inr (.inl (h.2.2.2 k)))
  | 3 => .inl (G.2.2.2.1, (h.1.2 k).2, .inr (.inr (.inr (.inr (fun j => zx_opt α (h.2.2.1 k j))))))
  | 4 => .inl (G.2.2.2.2, (h.1.2 k).2, .inr (.inr (.inr (.inr (fun j => zx_opt α (h.2.2.1 k j))))))
  | t + 5 => .inr (t, zx_fs (zx_ft t) α (h.2.1 k) (h.2.2.1 k))
def zx_wl (G : zx_G) (α : Nat → Nat) (h : zx_H) : va_W := (List.range h.1.1).map (fun k => (α (k + 1), zx_enc G α h (k + 1)))
/-- what exists: cells 1 .. n; lengths are small -/
def zx_ok (h : zx_H) : Prop := ∀ k, (h.1.2 k).1 < 100 → 0 < k ∧ k ≤ h.1.1 ∧ (h.1.2 k).2 < 2 ^ 31
/-- while cells are made: which address the next one has -/
def zx_fr (α : Nat → Nat) (sz : Nat) (h : zx_H) : Prop := ∀ k, α (k + 1) + h.1.1 = k + sz
theorem zx_wl_at {G : zx_G} {α : Nat → Nat} {h : zx_H} {k : Nat} (h1 : 0 < k) (h2 : k ≤ h.1.1) : (zx_wl G α h)[k - 1]? = some (α k, zx_enc G α h k) := by
  unfold zx_wl
  rw [List.getElem?_map, List.getElem?_range (by omega)]
  simp only [Option.map_some]
  rw [show k - 1 + 1 = k by omega]
theorem zx_wl_len {G : zx_G} {α : Nat → Nat} {h : zx_H} : (zx_wl G α h).length = h.1.1 := by simp [zx_wl]
theorem zx_enc_congr {G : zx_G} {α : Nat → Nat} {h h' : zx_H} {k : Nat} (hn : h'.1 = h.1) (hI : h'.2.1 k = h.2.1 k) (hR : h'.2.2.1 k = h.2.2.1 k) (hJ : h'.2.2.2 k = h.2.2.2 k) : zx_enc G α h' k = zx_enc G α h k := by
  unfold zx_enc
  rw [hn, hI, hR, hJ]
theorem zx_wl_set {G : zx_G} {α : Nat → Nat} {h h' : zx_H} {p : Nat} (hn : h'.1 = h.1) (hI : ∀ k, k ≠ p → h'.2.1 k = h.2.1 k) (hR : ∀ k, k ≠ p → h'.2.2.1 k = h.2.2.1 k) (hJ : ∀ k, k ≠ p → h'.2.2.2 k = h.2.2.2 k) (h1 : 0 < p) (h2 : p ≤ h.1.1) :
    (zx_wl G α h).set (p - 1) (α p, zx_enc G α h' p) = zx_wl G α h' := by
  apply List.ext_getElem?
  intro i
  by_cases hi : i = p - 1
  · subst hi
    rw [List.getElem?_set_self (by rw [zx_wl_len]; omega), zx_wl_at (h := h') h1 (by rw [hn]; exact h2)]
  · rw [List.getElem?_set_ne (fun q => hi q.symm)]
    by_cases hl : i < h.1.1
    · have a1 := zx_wl_at (G := G) (α := α) (h := h) (k := i + 1) (by omega) (by omega)
      have a2 := zx_wl_at (G := G) (α := α) (h := h') (k := i + 1) (by omega) (by rw [hn]; omega)
      rw [Nat.add_sub_cancel] at a1 a2
      rw [a1, a2, zx_enc_congr hn (hI _ (by omega)) (hR _ (by omega)) (hJ _ (by omega))]
    · rw [List.getElem?_eq_none (by rw [zx_wl_len]; omega), List.getElem?_eq_none (by rw [zx_wl_len, hn]; omega)]
/-- locals: read, set -/
def zx_get (i : Nat) : List (Nat × Value) → Option Value
  | [] => none
  | q :: t => if q.1 = i then some q.2 else zx_get i t
def zx_set (i : Nat) (v : Value) (L : List (Nat × Value)) : List (Nat × Value) := L.filter (fun q => Nat.blt q.1 i && !(q.1 + 1 == i && q.2.category == 2)) ++ (i, v) :: L.filter (fun q => Nat.blt i q.1)
def zx_set2 (i : Nat) (v : Value) (L : List (Nat × Value)) : List (Nat × Value) := L.filter (fun q => Nat.blt q.1 i && !(q.1 + 1 == i && q.2.category == 2)) ++ (i, v) :: L.filter (fun q => Nat.blt (i + 1) q.1)
abbrev zx_lm (α : Nat → Nat) (L : List (Nat × Value)) : List (Nat × Value) := L.map (fun q => (q.1, zx_cv α q.2))
theorem zx_get_mem {i : Nat} {v : Value} : ∀ {L : List (Nat × Value)}, zx_get i L = some v → (i, v) ∈ L
  | [], h => by cases h
  | q :: t, h => by
    unfold zx_get at h
    by_cases hq : q.1 = i
    · rw [if_pos hq] at h
      cases h
      subst hq
      exact List.mem_cons_self
    · rw [if_neg hq] at h
      exact List.mem_cons_of_mem _ (zx_get_mem h)
theorem zx_at {ls : Array Slot} {n : Nat} {α : Nat → Nat} {L : List (Nat × Value)} (h : lv_has ls n (zx_lm α L)) {i : Nat} {v : Value} (g : zx_get i L = some v) : ls[i]? = some (.val (zx_cv α v)) := h.2.2 (i, zx_cv α v) (List.mem_map.mpr ⟨(i, v), zx_get_mem g, rfl⟩)
theorem zx_has_sub {ls : Array Slot} {n : Nat} {l l' : List (Nat × Value)} (h : lv_has ls n l) (hs : ∀ q ∈ l', q ∈ l) : lv_has ls n l' := ⟨h.1, h.2.1, fun q hq => h.2.2 q (hs q hq)⟩
theorem zx_set_sub {α : Nat → Nat} {L : List (Nat × Value)} {i : Nat} {v : Value} : ∀ q ∈ zx_lm α (zx_set i v L), q ∈ (i, zx_cv α v) :: (zx_lm α L).filter (fun q => !(q.1 == i) && !(q.1 + 1 == i && q.2.category == 2)) := by
  intro q hq
  obtain ⟨a, ha, rfl⟩ := List.mem_map.mp hq
  unfold zx_set at ha
  rcases List.mem_append.mp ha with h | h
  · obtain ⟨h1, h2⟩ := List.mem_filter.mp h
    simp only [Bool.and_eq_true] at h2
    obtain ⟨h3, h4⟩ := h2
    have h3 : a.1 < i := by simpa using h3
    refine List.mem_cons_of_mem _ (List.mem_filter.mpr ⟨List.mem_map.mpr ⟨a, h1, rfl⟩, ?_⟩)
    simp only [zx_cv_cat, Bool.and_eq_true]
    exact ⟨by simp; omega, h4⟩
  · rcases List.mem_cons.mp h with rfl | h
    · exact List.mem_cons_self
    · obtain ⟨h1, h2⟩ := List.mem_filter.mp h
      have h3 : i < a.1 := by simpa using h2
      refine List.mem_cons_of_mem _ (List.mem_filter.mpr ⟨List.mem_map.mpr ⟨a, h1, rfl⟩, ?_⟩)
      simp only [Bool.and_eq_true]
      refine ⟨by simp; omega, ?_⟩
      have : (a.1 + 1 == i) = false := by simp; omega
      simp [this]
theorem zx_set2_sub {α : Nat → Nat} {L : List (Nat × Value)} {i : Nat} {v : Value} : ∀ q ∈ zx_lm α (zx_set2 i v L), q ∈ (i, zx_cv α v) :: (zx_lm α L).filter (fun q => !(q.1 == i) && (!(q.1 == i + 1) && !(q.1 + 1 == i && q.2.category == 2))) := by
  intro q hq
  obtain ⟨a, ha, rfl⟩ := List.mem_map.mp hq
  unfold zx_set2 at ha
  rcases List.mem_append.mp ha with h | h
  · obtain ⟨h1, h2⟩ := List.mem_filter.mp h
    simp only [Bool.and_eq_true] at h2
    obtain ⟨h3, h4⟩ := h2
    have h3 : a.1 < i := by simpa using h3
    refine List.mem_cons_of_mem _ (List.mem_filter.mpr ⟨List.mem_map.mpr ⟨a, h1, rfl⟩, ?_⟩)
    simp only [zx_cv_cat, Bool.and_eq_true]
    exact ⟨by simp; omega, by simp; omega, h4⟩
  · rcases List.mem_cons.mp h with rfl | h
    · exact List.mem_cons_self
    · obtain ⟨h1, h2⟩ := List.mem_filter.mp h
      have h3 : i + 1 < a.1 := by simpa using h2
      refine List.mem_cons_of_mem _ (List.mem_filter.mpr ⟨List.mem_map.mpr ⟨a, h1, rfl⟩, ?_⟩)
      simp only [Bool.and_eq_true]
      refine ⟨by simp; omega, by simp; omega, ?_⟩
      have : (a.1 + 1 == i) = false := by simp; omega
      simp [this]
/-- heap updates -/
def zx_u2 {β : Type} (f : Nat → Nat → β) (p j : Nat) (v : β) : Nat → Nat → β := fun q i => if q = p ∧ i = j then v else f q i
def zx_upI (h : zx_H) (p j : Nat) (v : Int32) : zx_H := (h.1, zx_u2 h.2.1 p j v, h.2.2)
def zx_upR (h : zx_H) (p j : Nat) (v : Nat) : zx_H := (h.1, h.2.1, zx_u2 h.2.2.1 p j v, h.2.2.2)
def zx_upJ (h : zx_H) (p j : Nat) (v : Int64) : zx_H := (h.1, h.2.1, h.2.2.1, zx_u2 h.2.2.2 p j v)
theorem zx_u2_off {β : Type} {f : Nat → Nat → β} {p j : Nat} {v : β} {q : Nat} (h : q ≠ p) : zx_u2 f p j v q = f q := by
  funext i
  simp [zx_u2, h]
theorem zx_u2_on {f : Nat → Nat → Int32} {p j : Nat} {v : Int32} : zx_u2 f p j v p = upd (f p) j v := by
  funext i
  simp [zx_u2, upd]
theorem zx_u2_onL {f : Nat → Nat → Int64} {p j : Nat} {v : Int64} : zx_u2 f p j v p = vp_updL (f p) j v := by
  funext i
  simp [zx_u2, vp_updL]
/-- tables and classes -/
def zx_K (D : va_G) (G : zx_G) (U : State) : Prop := va_K D zx_cl [(G.1, .int), (G.2.1, .boolean), (G.2.2.1, .long), (G.2.2.2.1, .object zx_CQ), (G.2.2.2.2, .array .int)] U
def zx_R (D : va_G) (G : zx_G) (α : Nat → Nat) (A : Nat → Prop) (fl : Bool) (kc : Nat) (h : zx_H) (s : State) (H : Heap) (locs : List Loc) : Prop :=
  zx_K D G s ∧ (∀ q, s.heap.size ≤ q → A q) ∧ va_P D zx_cl (zx_wl G α h) H ∧ va_D A (zx_wl G α h) ∧ va_S A s.heap H locs ∧ zx_ok h ∧ (fl = true → zx_fr α (s.heap.size + kc) h ∧ kc ≤ h.1.1)
def zx_Cx (M : zx_M) (p : Program) (s : State) (m : MethodId) (args : Array Value) (meth : Method) (c : Code) : Prop :=
  p.tables.exec = Jvm.exec ∧ c.code = M.2.1 ∧ c.maxLocals = M.2.2.1 ∧ meth.sig.returnType = M.2.2.2 ∧ meth.locks = false ∧ s.vm.findClass M.1.cls = some m.cls ∧ (∀ w ∈ zx_T, w.before args s = true) ∧ (M.1.name = "<init>" → meth.name = "<init>")
abbrev zx_Zt : Type := va_G → zx_G → (Nat → Nat) → (Nat → Prop) → State → Array Value → List Frame → State → Prop
def zx_X (l : Launch) (rm : Room) (M : zx_M) (fl : Bool) (kc ks : Nat) (Z : zx_Zt) (pc : Nat) (L : List (Nat × Value)) (S : List Value) (h : zx_H) : Prop :=
  ∀ (D : va_G) (G : zx_G) (α : Nat → Nat) (A : Nat → Prop) (p : Program) (e : Env) (s : State) (m : MethodId) (args : Array Value) (below : List Frame) (meth : Method) (c : Code) (H : Heap) (locs : List Loc) (ls : Array Slot),
    zx_Cx M p s m args meth c → zx_R D G α A fl kc h s H locs → lv_has ls M.2.2.1 (zx_lm α L) →
    W p l e rm s m args below meth c H locs kc ks (Z D G α A s args below) (F0 m pc ls (S.map (zx_cv α)))
def zx_ws (M : zx_M) : List Cond := .code M.1 M.2.1 M.2.2.1 M.2.2.2 :: zx_T
def zx_Qc (D : va_G) (G : zx_G) (α : Nat → Nat) (fl : Bool) (mc : Nat) (Q : Option Value → zx_H → Prop) (A : Nat → Prop) : Array Value → State → Outcome → State → Prop := fun _ st o t =>
  (∃ (r : Option Value) (h' : zx_H), o = .returned (r.map (zx_cv α)) ∧ Q r h' ∧ va_P D zx_cl (zx_wl G α h') t.heap ∧ va_D A (zx_wl G α h') ∧ zx_K D G t ∧ zx_ok h' ∧ (fl = true → zx_fr α (st.heap.size + mc) h' ∧ mc ≤ h'.1.1)) ∧ va_F A st t
/-- a method's end by a return -/
def zx_Zr (fl : Bool) (rm : Room) (Q : Option Value → zx_H → Prop) : zx_Zt := fun D G α A s args below => MQ below (zx_Qc D G α fl rm.cells Q A) args s rm.cells rm.slots A
def zx_C (l : Launch) (rm : Room) (M : zx_M) (fl : Bool) (As : List Value) (h : zx_H) (Q : Option Value → zx_H → Prop) : Prop :=
  ∀ (D : va_G) (G : zx_G) (α : Nat → Nat) (sz : Nat), Met l M.1 (zx_ws M) rm
    (va_Pc (As.map (zx_cv α)) (fun U => U.heap.size = sz ∧ va_P D zx_cl (zx_wl G α h) U.heap ∧ zx_K D G U ∧ va_D (fun _ => True) (zx_wl G α h) ∧ zx_ok h ∧ (fl = true → zx_fr α sz h)))
    (zx_Qc D G α fl rm.cells Q (va_A (zx_wl G α h) sz)) rm.cells rm.slots (va_A (zx_wl G α h) sz)
theorem zx_args_map (α : Nat → Nat) : ∀ (vs : List Value) (i : Nat), lv_args i (vs.map (zx_cv α)) = zx_lm α (lv_args i vs)
  | [], _ => rfl
  | v :: vs, i => by
    show (i, zx_cv α v) :: lv_args (if (zx_cv α v).category = 2 then i + 2 else i + 1) (vs.map (zx_cv α)) = (i, zx_cv α v) :: zx_lm α (lv_args (if v.category = 2 then i + 2 else i + 1) vs)
    rw [zx_cv_cat, zx_args_map α vs]
set_option maxRecDepth 20000 in
theorem zx_C.of {l : Launch} {rm : Room} {M : zx_M} {fl : Bool} {As : List Value} {h : zx_H} {Q : Option Value → zx_H → Prop} (hy : plainName M.1.cls = true) (hn : ∀ α : Nat → Nat, (lg_sl (As.map (zx_cv α))).length ≤ M.2.2.1)
    (k : zx_X l rm M fl 0 0 (zx_Zr fl rm Q) 0 (lv_args 0 As) [] h) : zx_C l rm M fl As h Q := by
  intro D G α sz
  refine Met.ofW (cc := M.2.1) (maxL := M.2.2.1) (ret := M.2.2.2) hy rfl ?_
  intro p e s m args below meth c s₁ B hml hv
  obtain ⟨rfl, hsz, hP, hK, hD0, hok, hfr⟩ := hv
  subst hsz
  have hD := hD0.self (sz := s.heap.size)
  have hl := lv_entry (As.map (zx_cv α)) (n := M.2.2.1) (hn α)
  rw [lg_entry_eq]
  have hts := atoms_spec (ws := zx_ws M) B.pre
  rw [zx_args_map] at hl
  exact k D G α _ p e s m _ below meth c s.heap [] _ ⟨B.exec, B.bytes, hml, B.returns, B.notSynchronized, findClass_of_methodNamed B.named, fun w hw => hts w (List.mem_cons_of_mem _ hw), fun q => (name_of_methodNamed B.named B.method).1.trans q⟩
    ⟨hK, fun q hq => Or.inr hq, hP, hD, va_S.rf, hok, fun q => ⟨hfr q, Nat.zero_le _⟩⟩ hl
section ZX
variable {l : Launch} {rm : Room} {M : zx_M} {fl : Bool} {kc ks : Nat} {Z : zx_Zt} {pc : Nat} {L : List (Nat × Value)} {S : List Value} {h : zx_H}
theorem zx_iadd {x y : Int32} (d : decode M.2.1 pc = .ok (.iadd, 1))  (k : zx_X l rm M fl kc ks Z (pc + 1) L (.int (x + y) :: S) h) : zx_X l rm M fl kc ks Z pc L (.int y :: .int x :: S) h := fun D G α A p e s m args below meth c H locs ls C R hl => lv_iadd C.1 C.2.1 d  (k D G α A p e s m args below meth c H locs ls C R hl)
theorem zx_isub {x y : Int32} (d : decode M.2.1 pc = .ok (.isub, 1))  (k : zx_X l rm M fl kc ks Z (pc + 1) L (.int (x - y) :: S) h) : zx_X l rm M fl kc ks Z pc L (.int y :: .int x :: S) h := fun D G α A p e s m args below meth c H locs ls C R hl => lv_isub C.1 C.2.1 d  (k D G α A p e s m args below meth c H locs ls C R hl)
theorem zx_imul {x y : Int32} (d : decode M.2.1 pc = .ok (.imul, 1))  (k : zx_X l rm M fl kc ks Z (pc + 1) L (.int (x * y) :: S) h) : zx_X l rm M fl kc ks Z pc L (.int y :: .int x :: S) h := fun D G α A p e s m args below meth c H locs ls C R hl => lv_imul C.1 C.2.1 d  (k D G α A p e s m args below meth c H locs ls C R hl)
theorem zx_iand {x y : Int32} (d : decode M.2.1 pc = .ok (.iand, 1))  (k : zx_X l rm M fl kc ks Z (pc + 1) L (.int (x &&& y) :: S) h) : zx_X l rm M fl kc ks Z pc L (.int y :: .int x :: S) h := fun D G α A p e s m args below meth c H locs ls C R hl => lv_iand C.1 C.2.1 d  (k D G α A p e s m args below meth c H locs ls C R hl)
theorem zx_ior {x y : Int32} (d : decode M.2.1 pc = .ok (.ior, 1))  (k : zx_X l rm M fl kc ks Z (pc + 1) L (.int (x ||| y) :: S) h) : zx_X l rm M fl kc ks Z pc L (.int y :: .int x :: S) h := fun D G α A p e s m args below meth c H locs ls C R hl => lv_ior C.1 C.2.1 d  (k D G α A p e s m args below meth c H locs ls C R hl)
theorem zx_ixor {x y : Int32} (d : decode M.2.1 pc = .ok (.ixor, 1))  (k : zx_X l rm M fl kc ks Z (pc + 1) L (.int (x ^^^ y) :: S) h) : zx_X l rm M fl kc ks Z pc L (.int y :: .int x :: S) h := fun D G α A p e s m args below meth c H locs ls C R hl => lv_ixor C.1 C.2.1 d  (k D G α A p e s m args below meth c H locs ls C R hl)
theorem zx_idiv {x y : Int32} (d : decode M.2.1 pc = .ok (.idiv, 1)) (hne : ¬ y = 0) (k : zx_X l rm M fl kc ks Z (pc + 1) L (.int (x / y) :: S) h) : zx_X l rm M fl kc ks Z pc L (.int y :: .int x :: S) h := fun D G α A p e s m args below meth c H locs ls C R hl => lv_idiv C.1 C.2.1 d hne (k D G α A p e s m args below meth c H locs ls C R hl)
theorem zx_irem {x y : Int32} (d : decode M.2.1 pc = .ok (.irem, 1)) (hne : ¬ y = 0) (k : zx_X l rm M fl kc ks Z (pc + 1) L (.int (x - x / y * y) :: S) h) : zx_X l rm M fl kc ks Z pc L (.int y :: .int x :: S) h := fun D G α A p e s m args below meth c H locs ls C R hl => lv_irem C.1 C.2.1 d hne (k D G α A p e s m args below meth c H locs ls C R hl)
theorem zx_ishl {x y : Int32} (d : decode M.2.1 pc = .ok (.ishl, 1))  (k : zx_X l rm M fl kc ks Z (pc + 1) L (.int (x <<< (y &&& 31)) :: S) h) : zx_X l rm M fl kc ks Z pc L (.int y :: .int x :: S) h := fun D G α A p e s m args below meth c H locs ls C R hl => lv_ishl C.1 C.2.1 d  (k D G α A p e s m args below meth c H locs ls C R hl)
theorem zx_ishr {x y : Int32} (d : decode M.2.1 pc = .ok (.ishr, 1))  (k : zx_X l rm M fl kc ks Z (pc + 1) L (.int (x >>> (y &&& 31)) :: S) h) : zx_X l rm M fl kc ks Z pc L (.int y :: .int x :: S) h := fun D G α A p e s m args below meth c H locs ls C R hl => lv_ishr C.1 C.2.1 d  (k D G α A p e s m args below meth c H locs ls C R hl)
theorem zx_iushr {x y : Int32} (d : decode M.2.1 pc = .ok (.iushr, 1))  (k : zx_X l rm M fl kc ks Z (pc + 1) L (.int ((x.toUInt32 >>> (y.toUInt32 &&& Int32.toUInt32 31)).toInt32) :: S) h) : zx_X l rm M fl kc ks Z pc L (.int y :: .int x :: S) h := fun D G α A p e s m args below meth c H locs ls C R hl => lv_iushr C.1 C.2.1 d rfl (k D G α A p e s m args below meth c H locs ls C R hl)
theorem zx_ineg {x : Int32} (d : decode M.2.1 pc = .ok (.ineg, 1))  (k : zx_X l rm M fl kc ks Z (pc + 1) L (.int (-x) :: S) h) : zx_X l rm M fl kc ks Z pc L (.int x :: S) h := fun D G α A p e s m args below meth c H locs ls C R hl => lv_ineg C.1 C.2.1 d  (k D G α A p e s m args below meth c H locs ls C R hl)
theorem zx_land {x y : Int64} (d : decode M.2.1 pc = .ok (.land, 1))  (k : zx_X l rm M fl kc ks Z (pc + 1) L (.long (x &&& y) :: S) h) : zx_X l rm M fl kc ks Z pc L (.long y :: .long x :: S) h := fun D G α A p e s m args below meth c H locs ls C R hl => lv_land C.1 C.2.1 d  (k D G α A p e s m args below meth c H locs ls C R hl)
theorem zx_lor {x y : Int64} (d : decode M.2.1 pc = .ok (.lor, 1))  (k : zx_X l rm M fl kc ks Z (pc + 1) L (.long (x ||| y) :: S) h) : zx_X l rm M fl kc ks Z pc L (.long y :: .long x :: S) h := fun D G α A p e s m args below meth c H locs ls C R hl => lv_lor C.1 C.2.1 d  (k D G α A p e s m args below meth c H locs ls C R hl)
theorem zx_lushr {x : Int64} {y : Int32} (d : decode M.2.1 pc = .ok (.lushr, 1))  (k : zx_X l rm M fl kc ks Z (pc + 1) L (.long ((x.toUInt64 >>> (y.toInt64.toUInt64 &&& Int64.toUInt64 63)).toInt64) :: S) h) : zx_X l rm M fl kc ks Z pc L (.int y :: .long x :: S) h := fun D G α A p e s m args below meth c H locs ls C R hl => lv_lushr C.1 C.2.1 d rfl (k D G α A p e s m args below meth c H locs ls C R hl)
theorem zx_lshl {x : Int64} {y : Int32} (d : decode M.2.1 pc = .ok (.lshl, 1))  (k : zx_X l rm M fl kc ks Z (pc + 1) L (.long (x <<< (y.toInt64 &&& 63)) :: S) h) : zx_X l rm M fl kc ks Z pc L (.int y :: .long x :: S) h := fun D G α A p e s m args below meth c H locs ls C R hl => lv_lshl C.1 C.2.1 d rfl (k D G α A p e s m args below meth c H locs ls C R hl)
theorem zx_i2l {x : Int32} (d : decode M.2.1 pc = .ok (.i2l, 1))  (k : zx_X l rm M fl kc ks Z (pc + 1) L (.long x.toInt64 :: S) h) : zx_X l rm M fl kc ks Z pc L (.int x :: S) h := fun D G α A p e s m args below meth c H locs ls C R hl => lv_i2l C.1 C.2.1 d rfl (k D G α A p e s m args below meth c H locs ls C R hl)
theorem zx_l2i {x : Int64} (d : decode M.2.1 pc = .ok (.l2i, 1))  (k : zx_X l rm M fl kc ks Z (pc + 1) L (.int x.toInt32 :: S) h) : zx_X l rm M fl kc ks Z pc L (.long x :: S) h := fun D G α A p e s m args below meth c H locs ls C R hl => lv_l2i C.1 C.2.1 d rfl (k D G α A p e s m args below meth c H locs ls C R hl)
theorem zx_lcmp {x y : Int64} (d : decode M.2.1 pc = .ok (.lcmp, 1))  (k : zx_X l rm M fl kc ks Z (pc + 1) L (.int (lg_cmp x y) :: S) h) : zx_X l rm M fl kc ks Z pc L (.long y :: .long x :: S) h := fun D G α A p e s m args below meth c H locs ls C R hl => W.lcmp C.1 C.2.1 d  (k D G α A p e s m args below meth c H locs ls C R hl)
theorem zx_iconst {n : Int} {v : Int32} (d : decode M.2.1 pc = .ok (.iconst n, 1)) (hv : Int32.ofInt n = v) (k : zx_X l rm M fl kc ks Z (pc + 1) L (.int v :: S) h) : zx_X l rm M fl kc ks Z pc L (S) h := fun D G α A p e s m args below meth c H locs ls C R hl => lv_iconst C.1 C.2.1 d hv (k D G α A p e s m args below meth c H locs ls C R hl)
theorem zx_bipush {n : Int} {v : Int32} (d : decode M.2.1 pc = .ok (.bipush n, 2)) (hv : (Int8.ofInt n).toInt32 = v) (k : zx_X l rm M fl kc ks Z (pc + 2) L (.int v :: S) h) : zx_X l rm M fl kc ks Z pc L (S) h := fun D G α A p e s m args below meth c H locs ls C R hl => lv_bipush C.1 C.2.1 d hv (k D G α A p e s m args below meth c H locs ls C R hl)
theorem zx_sipush {n : Int} {v : Int32} (d : decode M.2.1 pc = .ok (.sipush n, 3)) (hv : (Int16.ofInt n).toInt32 = v) (k : zx_X l rm M fl kc ks Z (pc + 3) L (.int v :: S) h) : zx_X l rm M fl kc ks Z pc L (S) h := fun D G α A p e s m args below meth c H locs ls C R hl => lv_sipush C.1 C.2.1 d hv (k D G α A p e s m args below meth c H locs ls C R hl)
theorem zx_dup_i {x : Int32} (d : decode M.2.1 pc = .ok (.dup, 1))  (k : zx_X l rm M fl kc ks Z (pc + 1) L (.int x :: .int x :: S) h) : zx_X l rm M fl kc ks Z pc L (.int x :: S) h := fun D G α A p e s m args below meth c H locs ls C R hl => lv_dup C.1 C.2.1 d rfl (k D G α A p e s m args below meth c H locs ls C R hl)
theorem zx_pop_i {x : Int32} (d : decode M.2.1 pc = .ok (.pop, 1))  (k : zx_X l rm M fl kc ks Z (pc + 1) L (S) h) : zx_X l rm M fl kc ks Z pc L (.int x :: S) h := fun D G α A p e s m args below meth c H locs ls C R hl => lv_pop C.1 C.2.1 d rfl (k D G α A p e s m args below meth c H locs ls C R hl)
theorem zx_dup_a {x : Nat} (d : decode M.2.1 pc = .ok (.dup, 1))  (k : zx_X l rm M fl kc ks Z (pc + 1) L (.ref x :: .ref x :: S) h) : zx_X l rm M fl kc ks Z pc L (.ref x :: S) h := fun D G α A p e s m args below meth c H locs ls C R hl => lv_dup C.1 C.2.1 d rfl (k D G α A p e s m args below meth c H locs ls C R hl)
theorem zx_pop_a {x : Nat} (d : decode M.2.1 pc = .ok (.pop, 1))  (k : zx_X l rm M fl kc ks Z (pc + 1) L (S) h) : zx_X l rm M fl kc ks Z pc L (.ref x :: S) h := fun D G α A p e s m args below meth c H locs ls C R hl => lv_pop C.1 C.2.1 d rfl (k D G α A p e s m args below meth c H locs ls C R hl)
theorem zx_dup2_ai {x : Int32} {y : Nat} (d : decode M.2.1 pc = .ok (.dup2, 1))  (k : zx_X l rm M fl kc ks Z (pc + 1) L (.int x :: .ref y :: .int x :: .ref y :: S) h) : zx_X l rm M fl kc ks Z pc L (.int x :: .ref y :: S) h := fun D G α A p e s m args below meth c H locs ls C R hl => lv_dup2_11 C.1 C.2.1 d rfl rfl (k D G α A p e s m args below meth c H locs ls C R hl)
theorem zx_iload_n {i : Fin 4} {x : Int32} (d : decode M.2.1 pc = .ok (.iload_n i, 1)) (g : zx_get i L = some (.int x)) (k : zx_X l rm M fl kc ks Z (pc + 1) L (.int x :: S) h) : zx_X l rm M fl kc ks Z pc L S h := fun D G α A p e s m args below meth c H locs ls C R hl => lv_iload_n C.1 C.2.1 d rfl (zx_at hl g) (k D G α A p e s m args below meth c H locs ls C R hl)
theorem zx_iload {i : Nat} {x : Int32} (d : decode M.2.1 pc = .ok (.iload i, 2)) (g : zx_get i L = some (.int x)) (k : zx_X l rm M fl kc ks Z (pc + 2) L (.int x :: S) h) : zx_X l rm M fl kc ks Z pc L S h := fun D G α A p e s m args below meth c H locs ls C R hl => lv_iload C.1 C.2.1 d (zx_at hl g) (k D G α A p e s m args below meth c H locs ls C R hl)
theorem zx_lload_n {i : Fin 4} {x : Int64} (d : decode M.2.1 pc = .ok (.lload_n i, 1)) (g : zx_get i L = some (.long x)) (k : zx_X l rm M fl kc ks Z (pc + 1) L (.long x :: S) h) : zx_X l rm M fl kc ks Z pc L S h := fun D G α A p e s m args below meth c H locs ls C R hl => lv_lload_n C.1 C.2.1 d rfl (zx_at hl g) (k D G α A p e s m args below meth c H locs ls C R hl)
theorem zx_lload {i : Nat} {x : Int64} (d : decode M.2.1 pc = .ok (.lload i, 2)) (g : zx_get i L = some (.long x)) (k : zx_X l rm M fl kc ks Z (pc + 2) L (.long x :: S) h) : zx_X l rm M fl kc ks Z pc L S h := fun D G α A p e s m args below meth c H locs ls C R hl => lv_lload C.1 C.2.1 d (zx_at hl g) (k D G α A p e s m args below meth c H locs ls C R hl)
theorem zx_aload_n {i : Fin 4} {x : Nat} (d : decode M.2.1 pc = .ok (.aload_n i, 1)) (g : zx_get i L = some (.ref x)) (k : zx_X l rm M fl kc ks Z (pc + 1) L (.ref x :: S) h) : zx_X l rm M fl kc ks Z pc L S h := fun D G α A p e s m args below meth c H locs ls C R hl => lv_aload_n C.1 C.2.1 d rfl (zx_at hl g) (k D G α A p e s m args below meth c H locs ls C R hl)
theorem zx_aload {i : Nat} {x : Nat} (d : decode M.2.1 pc = .ok (.aload i, 2)) (g : zx_get i L = some (.ref x)) (k : zx_X l rm M fl kc ks Z (pc + 2) L (.ref x :: S) h) : zx_X l rm M fl kc ks Z pc L S h := fun D G α A p e s m args below meth c H locs ls C R hl => lv_aload C.1 C.2.1 d (zx_at hl g) (k D G α A p e s m args below meth c H locs ls C R hl)
theorem zx_istore_n {i : Fin 4} {x : Int32} {L2 : List (Nat × Value)} (d : decode M.2.1 pc = .ok (.istore_n i, 1)) (hn : (i : Nat) < M.2.2.1) (hL : zx_set i (.int x) L = L2) (k : zx_X l rm M fl kc ks Z (pc + 1) L2 S h) : zx_X l rm M fl kc ks Z pc L (.int x :: S) h := fun D G α A p e s m args below meth c H locs ls C R hl => lv_istore_n C.1 C.2.1 d rfl hl hn rfl (fun ls2 h2 => k D G α A p e s m args below meth c H locs ls2 C R (zx_has_sub h2 (hL ▸ zx_set_sub)))
theorem zx_istore {i : Nat} {x : Int32} {L2 : List (Nat × Value)} (d : decode M.2.1 pc = .ok (.istore i, 2)) (hn : i < M.2.2.1) (hL : zx_set i (.int x) L = L2) (k : zx_X l rm M fl kc ks Z (pc + 2) L2 S h) : zx_X l rm M fl kc ks Z pc L (.int x :: S) h := fun D G α A p e s m args below meth c H locs ls C R hl => lv_istore C.1 C.2.1 d hl hn rfl (fun ls2 h2 => k D G α A p e s m args below meth c H locs ls2 C R (zx_has_sub h2 (hL ▸ zx_set_sub)))
theorem zx_astore_n {i : Fin 4} {x : Nat} {L2 : List (Nat × Value)} (d : decode M.2.1 pc = .ok (.astore_n i, 1)) (hn : (i : Nat) < M.2.2.1) (hL : zx_set i (.ref x) L = L2) (k : zx_X l rm M fl kc ks Z (pc + 1) L2 S h) : zx_X l rm M fl kc ks Z pc L (.ref x :: S) h := fun D G α A p e s m args below meth c H locs ls C R hl => lv_astore_n C.1 C.2.1 d rfl hl hn rfl (fun ls2 h2 => k D G α A p e s m args below meth c H locs ls2 C R (zx_has_sub h2 (hL ▸ zx_set_sub)))
theorem zx_astore {i : Nat} {x : Nat} {L2 : List (Nat × Value)} (d : decode M.2.1 pc = .ok (.astore i, 2)) (hn : i < M.2.2.1) (hL : zx_set i (.ref x) L = L2) (k : zx_X l rm M fl kc ks Z (pc + 2) L2 S h) : zx_X l rm M fl kc ks Z pc L (.ref x :: S) h := fun D G α A p e s m args below meth c H locs ls C R hl => lv_astore C.1 C.2.1 d hl hn rfl (fun ls2 h2 => k D G α A p e s m args below meth c H locs ls2 C R (zx_has_sub h2 (hL ▸ zx_set_sub)))
theorem zx_lstore_n {i : Fin 4} {x : Int64} {L2 : List (Nat × Value)} (d : decode M.2.1 pc = .ok (.lstore_n i, 1)) (hn : (i : Nat) + 1 < M.2.2.1) (hL : zx_set2 i (.long x) L = L2) (k : zx_X l rm M fl kc ks Z (pc + 1) L2 S h) : zx_X l rm M fl kc ks Z pc L (.long x :: S) h := fun D G α A p e s m args below meth c H locs ls C R hl => lv_lstore_n C.1 C.2.1 d rfl hl hn rfl (fun ls2 h2 => k D G α A p e s m args below meth c H locs ls2 C R (zx_has_sub h2 (hL ▸ zx_set2_sub)))
theorem zx_lstore {i : Nat} {x : Int64} {L2 : List (Nat × Value)} (d : decode M.2.1 pc = .ok (.lstore i, 2)) (hn : i + 1 < M.2.2.1) (hL : zx_set2 i (.long x) L = L2) (k : zx_X l rm M fl kc ks Z (pc + 2) L2 S h) : zx_X l rm M fl kc ks Z pc L (.long x :: S) h := fun D G α A p e s m args below meth c H locs ls C R hl => lv_lstore C.1 C.2.1 d hl hn rfl (fun ls2 h2 => k D G α A p e s m args below meth c H locs ls2 C R (zx_has_sub h2 (hL ▸ zx_set2_sub)))
theorem zx_iinc {i : Nat} {n : Int} {x v : Int32} {L2 : List (Nat × Value)} (d : decode M.2.1 pc = .ok (.iinc i n, 3)) (g : zx_get i L = some (.int x)) (hn : i < M.2.2.1) (hv : Int32.ofInt n = v) (hL : zx_set i (.int (x + v)) L = L2) (k : zx_X l rm M fl kc ks Z (pc + 3) L2 S h) : zx_X l rm M fl kc ks Z pc L S h := by
  intro D G α A p e s m args below meth c H locs ls C R hl
  obtain ⟨j, hj⟩ := List.getElem?_of_mem (List.mem_map.mpr ⟨(i, .int x), zx_get_mem g, rfl⟩ : (i, Value.int x) ∈ zx_lm α L)
  exact lv_iinc C.1 C.2.1 d hl hj (by rw [hv]) hn rfl (fun ls2 h2 => k D G α A p e s m args below meth c H locs ls2 C R (zx_has_sub h2 (hL ▸ zx_set_sub (v := .int (x + v)))))
theorem zx_icmp_eq {x y : Int32} {off : Int} {tgt : Nat} (d : decode M.2.1 pc = .ok (.if_icmp .eq off, 3)) (ht : (pc : Int) + off = (tgt : Int)) (kt : x = y → zx_X l rm M fl kc ks Z tgt L S h) (kf : ¬ x = y → zx_X l rm M fl kc ks Z (pc + 3) L S h) : zx_X l rm M fl kc ks Z pc L (.int y :: .int x :: S) h := fun D G α A p e s m args below meth c H locs ls C R hl => lv_icmp_eq C.1 C.2.1 d ht (fun q => kt q D G α A p e s m args below meth c H locs ls C R hl) (fun q => kf q D G α A p e s m args below meth c H locs ls C R hl)
theorem zx_icmp_ne {x y : Int32} {off : Int} {tgt : Nat} (d : decode M.2.1 pc = .ok (.if_icmp .ne off, 3)) (ht : (pc : Int) + off = (tgt : Int)) (kt : ¬ x = y → zx_X l rm M fl kc ks Z tgt L S h) (kf : x = y → zx_X l rm M fl kc ks Z (pc + 3) L S h) : zx_X l rm M fl kc ks Z pc L (.int y :: .int x :: S) h := fun D G α A p e s m args below meth c H locs ls C R hl => lv_icmp_ne C.1 C.2.1 d ht (fun q => kt q D G α A p e s m args below meth c H locs ls C R hl) (fun q => kf q D G α A p e s m args below meth c H locs ls C R hl)
theorem zx_icmp_lt {x y : Int32} {off : Int} {tgt : Nat} (d : decode M.2.1 pc = .ok (.if_icmp .lt off, 3)) (ht : (pc : Int) + off = (tgt : Int)) (kt : x < y → zx_X l rm M fl kc ks Z tgt L S h) (kf : ¬ x < y → zx_X l rm M fl kc ks Z (pc + 3) L S h) : zx_X l rm M fl kc ks Z pc L (.int y :: .int x :: S) h := fun D G α A p e s m args below meth c H locs ls C R hl => lv_icmp_lt C.1 C.2.1 d ht (fun q => kt q D G α A p e s m args below meth c H locs ls C R hl) (fun q => kf q D G α A p e s m args below meth c H locs ls C R hl)
theorem zx_icmp_ge {x y : Int32} {off : Int} {tgt : Nat} (d : decode M.2.1 pc = .ok (.if_icmp .ge off, 3)) (ht : (pc : Int) + off = (tgt : Int)) (kt : y ≤ x → zx_X l rm M fl kc ks Z tgt L S h) (kf : ¬ y ≤ x → zx_X l rm M fl kc ks Z (pc + 3) L S h) : zx_X l rm M fl kc ks Z pc L (.int y :: .int x :: S) h := fun D G α A p e s m args below meth c H locs ls C R hl => lv_icmp_ge C.1 C.2.1 d ht (fun q => kt q D G α A p e s m args below meth c H locs ls C R hl) (fun q => kf q D G α A p e s m args below meth c H locs ls C R hl)
theorem zx_icmp_gt {x y : Int32} {off : Int} {tgt : Nat} (d : decode M.2.1 pc = .ok (.if_icmp .gt off, 3)) (ht : (pc : Int) + off = (tgt : Int)) (kt : y < x → zx_X l rm M fl kc ks Z tgt L S h) (kf : ¬ y < x → zx_X l rm M fl kc ks Z (pc + 3) L S h) : zx_X l rm M fl kc ks Z pc L (.int y :: .int x :: S) h := fun D G α A p e s m args below meth c H locs ls C R hl => lv_icmp_gt C.1 C.2.1 d ht (fun q => kt q D G α A p e s m args below meth c H locs ls C R hl) (fun q => kf q D G α A p e s m args below meth c H locs ls C R hl)
theorem zx_icmp_le {x y : Int32} {off : Int} {tgt : Nat} (d : decode M.2.1 pc = .ok (.if_icmp .le off, 3)) (ht : (pc : Int) + off = (tgt : Int)) (kt : x ≤ y → zx_X l rm M fl kc ks Z tgt L S h) (kf : ¬ x ≤ y → zx_X l rm M fl kc ks Z (pc + 3) L S h) : zx_X l rm M fl kc ks Z pc L (.int y :: .int x :: S) h := fun D G α A p e s m args below meth c H locs ls C R hl => lv_icmp_le C.1 C.2.1 d ht (fun q => kt q D G α A p e s m args below meth c H locs ls C R hl) (fun q => kf q D G α A p e s m args below meth c H locs ls C R hl)
theorem zx_if_eq {x : Int32} {off : Int} {tgt : Nat} (d : decode M.2.1 pc = .ok (.ifCond .eq off, 3)) (ht : (pc : Int) + off = (tgt : Int)) (kt : x = 0 → zx_X l rm M fl kc ks Z tgt L S h) (kf : ¬ x = 0 → zx_X l rm M fl kc ks Z (pc + 3) L S h) : zx_X l rm M fl kc ks Z pc L (.int x :: S) h := fun D G α A p e s m args below meth c H locs ls C R hl => lv_if_eq C.1 C.2.1 d ht (fun q => kt q D G α A p e s m args below meth c H locs ls C R hl) (fun q => kf q D G α A p e s m args below meth c H locs ls C R hl)
theorem zx_if_ne {x : Int32} {off : Int} {tgt : Nat} (d : decode M.2.1 pc = .ok (.ifCond .ne off, 3)) (ht : (pc : Int) + off = (tgt : Int)) (kt : ¬ x = 0 → zx_X l rm M fl kc ks Z tgt L S h) (kf : x = 0 → zx_X l rm M fl kc ks Z (pc + 3) L S h) : zx_X l rm M fl kc ks Z pc L (.int x :: S) h := fun D G α A p e s m args below meth c H locs ls C R hl => lv_if_ne C.1 C.2.1 d ht (fun q => kt q D G α A p e s m args below meth c H locs ls C R hl) (fun q => kf q D G α A p e s m args below meth c H locs ls C R hl)
theorem zx_if_lt {x : Int32} {off : Int} {tgt : Nat} (d : decode M.2.1 pc = .ok (.ifCond .lt off, 3)) (ht : (pc : Int) + off = (tgt : Int)) (kt : x < 0 → zx_X l rm M fl kc ks Z tgt L S h) (kf : ¬ x < 0 → zx_X l rm M fl kc ks Z (pc + 3) L S h) : zx_X l rm M fl kc ks Z pc L (.int x :: S) h := fun D G α A p e s m args below meth c H locs ls C R hl => lv_if_lt C.1 C.2.1 d ht (fun q => kt q D G α A p e s m args below meth c H locs ls C R hl) (fun q => kf q D G α A p e s m args below meth c H locs ls C R hl)
theorem zx_if_ge {x : Int32} {off : Int} {tgt : Nat} (d : decode M.2.1 pc = .ok (.ifCond .ge off, 3)) (ht : (pc : Int) + off = (tgt : Int)) (kt : 0 ≤ x → zx_X l rm M fl kc ks Z tgt L S h) (kf : ¬ 0 ≤ x → zx_X l rm M fl kc ks Z (pc + 3) L S h) : zx_X l rm M fl kc ks Z pc L (.int x :: S) h := fun D G α A p e s m args below meth c H locs ls C R hl => lv_if_ge C.1 C.2.1 d ht (fun q => kt q D G α A p e s m args below meth c H locs ls C R hl) (fun q => kf q D G α A p e s m args below meth c H locs ls C R hl)
theorem zx_if_gt {x : Int32} {off : Int} {tgt : Nat} (d : decode M.2.1 pc = .ok (.ifCond .gt off, 3)) (ht : (pc : Int) + off = (tgt : Int)) (kt : 0 < x → zx_X l rm M fl kc ks Z tgt L S h) (kf : ¬ 0 < x → zx_X l rm M fl kc ks Z (pc + 3) L S h) : zx_X l rm M fl kc ks Z pc L (.int x :: S) h := fun D G α A p e s m args below meth c H locs ls C R hl => lv_if_gt C.1 C.2.1 d ht (fun q => kt q D G α A p e s m args below meth c H locs ls C R hl) (fun q => kf q D G α A p e s m args below meth c H locs ls C R hl)
theorem zx_if_le {x : Int32} {off : Int} {tgt : Nat} (d : decode M.2.1 pc = .ok (.ifCond .le off, 3)) (ht : (pc : Int) + off = (tgt : Int)) (kt : x ≤ 0 → zx_X l rm M fl kc ks Z tgt L S h) (kf : ¬ x ≤ 0 → zx_X l rm M fl kc ks Z (pc + 3) L S h) : zx_X l rm M fl kc ks Z pc L (.int x :: S) h := fun D G α A p e s m args below meth c H locs ls C R hl => lv_if_le C.1 C.2.1 d ht (fun q => kt q D G α A p e s m args below meth c H locs ls C R hl) (fun q => kf q D G α A p e s m args below meth c H locs ls C R hl)
theorem zx_goto {off : Int} {tgt : Nat} (d : decode M.2.1 pc = .ok (.goto off, 3)) (ht : (pc : Int) + off = (tgt : Int)) (k : zx_X l rm M fl kc ks Z tgt L S h) : zx_X l rm M fl kc ks Z pc L S h := fun D G α A p e s m args below meth c H locs ls C R hl => lv_goto C.1 C.2.1 d ht (k D G α A p e s m args below meth c H locs ls C R hl)
theorem zx_tableOut {dflt lo hi : Int} {offs : Array Int} {len : Nat} {x : Int32} {tgt : Nat} (d : decode M.2.1 pc = .ok (.tableswitch dflt lo hi offs, len)) (hq : x.toInt < lo ∨ hi < x.toInt) (ht : (pc : Int) + dflt = (tgt : Int)) (k : zx_X l rm M fl kc ks Z tgt L S h) : zx_X l rm M fl kc ks Z pc L (.int x :: S) h := fun D G α A p e s m args below meth c H locs ls C R hl => lv_tableOut C.1 C.2.1 d hq ht (k D G α A p e s m args below meth c H locs ls C R hl)
theorem zx_tableIn {dflt lo hi : Int} {offs : Array Int} {len : Nat} {x : Int32} {off : Int} {tgt : Nat} (d : decode M.2.1 pc = .ok (.tableswitch dflt lo hi offs, len)) (h1 : ¬ x.toInt < lo) (h2 : ¬ hi < x.toInt) (ho : offs[(x.toInt - lo).toNat]? = some off) (ht : (pc : Int) + off = (tgt : Int)) (k : zx_X l rm M fl kc ks Z tgt L S h) : zx_X l rm M fl kc ks Z pc L (.int x :: S) h := fun D G α A p e s m args below meth c H locs ls C R hl => lv_tableIn C.1 C.2.1 d h1 h2 ho ht (k D G α A p e s m args below meth c H locs ls C R hl)
theorem zx_ldc {idx : Nat} {v : Int32} (w : Cond.constant M.1.cls idx v ∈ zx_T) (d : decode M.2.1 pc = .ok (.ldc idx, 2)) (k : zx_X l rm M fl kc ks Z (pc + 2) L (.int v :: S) h) : zx_X l rm M fl kc ks Z pc L S h := fun D G α A p e s m args below meth c H locs ls C R hl => lv_ldc C.1 C.2.1 C.2.2.2.2.2.1 (C.2.2.2.2.2.2.1 _ w) d (k D G α A p e s m args below meth c H locs ls C R hl)
theorem zx_ldc2 {idx : Nat} {v : Int64} (w : Cond.constantLong M.1.cls idx v ∈ zx_T) (d : decode M.2.1 pc = .ok (.ldc2_w idx, 3)) (k : zx_X l rm M fl kc ks Z (pc + 3) L (.long v :: S) h) : zx_X l rm M fl kc ks Z pc L S h := fun D G α A p e s m args below meth c H locs ls C R hl => lv_ldc2 C.1 C.2.1 C.2.2.2.2.2.1 (C.2.2.2.2.2.2.1 _ w) d (k D G α A p e s m args below meth c H locs ls C R hl)
theorem zx_loc {L2 : List (Nat × Value)} (hs : ∀ q ∈ L2, q ∈ L) (k : zx_X l rm M fl kc ks Z pc L2 S h) : zx_X l rm M fl kc ks Z pc L S h := fun D G α A p e s m args below meth c H locs ls C R hl => k D G α A p e s m args below meth c H locs ls C R (zx_has_sub hl (fun q hq => by obtain ⟨a, ha, rfl⟩ := List.mem_map.mp hq; exact List.mem_map.mpr ⟨a, hs a ha, rfl⟩))
theorem zx_eq {pc2 : Nat} {L2 : List (Nat × Value)} {S2 : List Value} {h2 : zx_H} (h1 : pc2 = pc) (e2 : L2 = L) (e3 : S2 = S) (e4 : h2 = h) (k : zx_X l rm M fl kc ks Z pc2 L2 S2 h2) : zx_X l rm M fl kc ks Z pc L S h := by subst h1; subst e2; subst e3; subst e4; exact k
theorem zx_locs {L2 : List (Nat × Value)} (ks2 : List Nat) (hs : ks2.filterMap (fun i => L[i]?) = L2) (k : zx_X l rm M fl kc ks Z pc L2 S h) : zx_X l rm M fl kc ks Z pc L S h := zx_loc (fun q hq => by subst hs; obtain ⟨i, -, hi⟩ := List.mem_filterMap.mp hq; exact List.mem_of_getElem? hi) k
end ZX
theorem zx_fs_at {ft : List Bool} {α : Nat → Nat} {I : Nat → Int32} {R : Nat → Nat} {j : Nat} (hj : j < ft.length) : (zx_fs ft α I R)[j]? = some (if ft.getD j false = true then zx_nul α (R j) else .int (I j)) := by
  unfold zx_fs
  rw [List.getElem?_map, List.getElem?_range hj]
  rfl
theorem zx_fs_len {ft : List Bool} {α : Nat → Nat} {I : Nat → Int32} {R : Nat → Nat} : (zx_fs ft α I R).length = ft.length := by simp [zx_fs]
theorem zx_fs_set {ft : List Bool} {α : Nat → Nat} {I I' : Nat → Int32} {R R' : Nat → Nat} {j : Nat} {v : Value} (hj : j < ft.length) (hv : v = (if ft.getD j false = true then zx_nul α (R' j) else .int (I' j))) (hI : ∀ i, i ≠ j → I' i = I i) (hR : ∀ i, i ≠ j → R' i = R i) : (zx_fs ft α I R).set j v = zx_fs ft α I' R' := by
  apply List.ext_getElem?
  intro i
  by_cases hi : i = j
  · subst hi
    rw [List.getElem?_set_self (by rw [zx_fs_len]; exact hj), zx_fs_at hj, hv]
  · rw [List.getElem?_set_ne (fun q => hi q.symm)]
    by_cases hl : i < ft.length
    · rw [zx_fs_at hl, zx_fs_at hl, hI i hi, hR i hi]
    · rw [List.getElem?_eq_none (by rw [zx_fs_len]; omega), List.getElem?_eq_none (by rw [zx_fs_len]; omega)]
theorem zx_enc_obj {G : zx_G} {α : Nat → Nat} {h : zx_H} {o ci : Nat} (kd : (h.1.2 o).1 = ci + 5) : zx_enc G α h o = .inr (ci, zx_fs (zx_ft ci) α (h.2.1 o) (h.2.2.1 o)) := by
  unfold zx_enc
  rw [kd]
theorem zx_enc_int {G : zx_G} {α : Nat → Nat} {h : zx_H} {o n : Nat} (kd : h.1.2 o = (0, n)) : zx_enc G α h o = .inl (G.1, n, .inl (h.2.1 o)) := by
  unfold zx_enc
  rw [kd]
theorem zx_enc_bool {G : zx_G} {α : Nat → Nat} {h : zx_H} {o n : Nat} (kd : h.1.2 o = (1, n)) : zx_enc G α h o = .inl (G.2.1, n, .inl (h.2.1 o)) := by
  unfold zx_enc
  rw [kd]
theorem zx_enc_long {G : zx_G} {α : Nat → Nat} {h : zx_H} {o n : Nat} (kd : h.1.2 o = (2, n)) : zx_enc G α h o = .inl (G.2.2.1, n, .inr (.inl (h.2.2.2 o))) := by
  unfold zx_enc
  rw [kd]
theorem zx_enc_q3 {G : zx_G} {α : Nat → Nat} {h : zx_H} {o n : Nat} (kd : h.1.2 o = (3, n)) : zx_enc G α h o = .inl (G.2.2.2.1, n, .inr (.inr (.inr (.inr (fun j => zx_opt α (h.2.2.1 o j)))))) := by
  unfold zx_enc
  rw [kd]
theorem zx_enc_q4 {G : zx_G} {α : Nat → Nat} {h : zx_H} {o n : Nat} (kd : h.1.2 o = (4, n)) : zx_enc G α h o = .inl (G.2.2.2.2, n, .inr (.inr (.inr (.inr (fun j => zx_opt α (h.2.2.1 o j)))))) := by
  unfold zx_enc
  rw [kd]
/-- a field of a class by its number in the pool of the class that uses it -/
def zx_fld (own : String) (idx ci j : Nat) (isR fin : Bool) : Prop := ∃ (C : String) (T : u_T) (N : Nat) (ty : Nat → FieldType),
  zx_cl[ci]? = some (C, T, N) ∧ j < N ∧ (∀ w ∈ u_ws C T N, w ∈ zx_T) ∧ (∀ k, k < N → parseFieldDescriptor (T k).2.2.1 = some (ty k)) ∧ (∀ a, a < N → ∀ b, b < N → a ≠ b → (T a).2.1 ≠ (T b).2.1) ∧ (zx_ft ci).length = N ∧ (zx_ft ci).getD j false = isR ∧ (T j).2.2.2 = fin ∧
  (isR = false → ty j = .int) ∧ (isR = true → (ty j).isReference = true) ∧ (fin = true → (T j).1 = own) ∧ (T j).1 = C ∧
  (Cond.fieldLink own idx C (T j).2.1 (T j).2.2.1 ∈ zx_T ∨ ∃ host, Cond.fieldLinkNest own idx C (T j).2.1 (T j).2.2.1 host ∈ zx_T)
theorem zx_fits_ref {ty : FieldType} (h : ty.isReference = true) (a : Nat) : narrow ty (.ref a) = .ref a ∧ fits ty (.ref a) = true := by
  cases ty <;> first | exact ⟨rfl, rfl⟩ | cases h
section ZY
variable {l : Launch} {rm : Room} {M : zx_M} {fl : Bool} {kc ks : Nat} {Z : zx_Zt} {pc : Nat} {L : List (Nat × Value)} {S : List Value} {h : zx_H}
theorem zx_getI {o ci j idx : Nat} {fin : Bool} (f : zx_fld M.1.cls idx ci j false fin) (kd : (h.1.2 o).1 = ci + 5) (hci : ci < 90) (d : decode M.2.1 pc = .ok (.getfield idx, 3)) (k : zx_X l rm M fl kc ks Z (pc + 3) L (.int (h.2.1 o j) :: S) h) : zx_X l rm M fl kc ks Z pc L (.ref o :: S) h := by
  intro D G α A p e s m args below meth c H locs ls C R hl
  obtain ⟨Cn, T, N, ty, hc, hj, hin, hty, hnm, hlen, hR, hfin, hi, hr, hf, hC, hlink⟩ := f
  have hk := k D G α A p e s m args below meth c H locs ls C R hl
  obtain ⟨hK, hA, hP, hD, hS, hok, hfr⟩ := R
  obtain ⟨o1, o2, -⟩ := hok o (by omega)
  have he : (zx_wl G α h)[o - 1]? = some (α o, .inr (ci, zx_fs (zx_ft ci) α (h.2.1 o) (h.2.2.1 o))) := by rw [zx_wl_at o1 o2, zx_enc_obj kd]
  have hv : (zx_fs (zx_ft ci) α (h.2.1 o) (h.2.2.1 o))[j]? = some (.int (h.2.1 o j)) := by
    rw [zx_fs_at (by omega), hR]
    rfl
  rcases hlink with hw | ⟨host, hw⟩
  · exact va_get C.1 C.2.1 C.2.2.2.2.2.2.1 hin C.2.2.2.2.2.1 hK hP (o - 1) he hc j hj (C.2.2.2.2.2.2.1 _ hw) (fun x9 h9 => hC ▸ h9) hv d hk
  · exact va_getN C.1 C.2.1 C.2.2.2.2.2.2.1 hin C.2.2.2.2.2.1 hK hP (o - 1) he hc j hj (C.2.2.2.2.2.2.1 _ hw) (fun x9 h9 => hC ▸ h9) hv d hk
theorem zx_getR {o ci j idx : Nat} {fin : Bool} (f : zx_fld M.1.cls idx ci j true fin) (kd : (h.1.2 o).1 = ci + 5) (hci : ci < 90) (nz : h.2.2.1 o j ≠ 0) (d : decode M.2.1 pc = .ok (.getfield idx, 3)) (k : zx_X l rm M fl kc ks Z (pc + 3) L (.ref (h.2.2.1 o j) :: S) h) : zx_X l rm M fl kc ks Z pc L (.ref o :: S) h := by
  intro D G α A p e s m args below meth c H locs ls C R hl
  obtain ⟨Cn, T, N, ty, hc, hj, hin, hty, hnm, hlen, hR, hfin, hi, hr, hf, hC, hlink⟩ := f
  have hk := k D G α A p e s m args below meth c H locs ls C R hl
  obtain ⟨hK, hA, hP, hD, hS, hok, hfr⟩ := R
  obtain ⟨o1, o2, -⟩ := hok o (by omega)
  have he : (zx_wl G α h)[o - 1]? = some (α o, .inr (ci, zx_fs (zx_ft ci) α (h.2.1 o) (h.2.2.1 o))) := by rw [zx_wl_at o1 o2, zx_enc_obj kd]
  have hv : (zx_fs (zx_ft ci) α (h.2.1 o) (h.2.2.1 o))[j]? = some (.ref (α (h.2.2.1 o j))) := by
    rw [zx_fs_at (by omega), hR]
    simp [zx_nul, nz]
  rcases hlink with hw | ⟨host, hw⟩
  · exact va_get C.1 C.2.1 C.2.2.2.2.2.2.1 hin C.2.2.2.2.2.1 hK hP (o - 1) he hc j hj (C.2.2.2.2.2.2.1 _ hw) (fun x9 h9 => hC ▸ h9) hv d hk
  · exact va_getN C.1 C.2.1 C.2.2.2.2.2.2.1 hin C.2.2.2.2.2.1 hK hP (o - 1) he hc j hj (C.2.2.2.2.2.2.1 _ hw) (fun x9 h9 => hC ▸ h9) hv d hk
theorem zx_putI {o ci j idx : Nat} {v : Int32} (f : zx_fld M.1.cls idx ci j false false) (kd : (h.1.2 o).1 = ci + 5) (hci : ci < 90) (d : decode M.2.1 pc = .ok (.putfield idx, 3)) (k : zx_X l rm M fl kc ks Z (pc + 3) L S (zx_upI h o j v)) : zx_X l rm M fl kc ks Z pc L (.int v :: .ref o :: S) h := by
  intro D G α A p e s m args below meth c H locs ls C R hl
  obtain ⟨Cn, T, N, ty, hc, hj, hin, hty, hnm, hlen, hR, hfin, hi, hr, hf, hC, hlink⟩ := f
  obtain ⟨hK, hA, hP, hD, hS, hok, hfr⟩ := R
  obtain ⟨o1, o2, -⟩ := hok o (by omega)
  have he : (zx_wl G α h)[o - 1]? = some (α o, .inr (ci, zx_fs (zx_ft ci) α (h.2.1 o) (h.2.2.1 o))) := by rw [zx_wl_at o1 o2, zx_enc_obj kd]
  have hset : (zx_wl G α h).set (o - 1) (α o, .inr (ci, (zx_fs (zx_ft ci) α (h.2.1 o) (h.2.2.1 o)).set j (.int v))) = zx_wl G α (zx_upI h o j v) := by
    rw [zx_fs_set (ft := zx_ft ci) (α := α) (I := h.2.1 o) (R := h.2.2.1 o) (j := j) (v := .int v) (I' := (zx_upI h o j v).2.1 o) (R' := (zx_upI h o j v).2.2.1 o) (by omega) (by rw [hR]; simp [zx_upI, zx_u2]) (fun i hi => by simp [zx_upI, zx_u2, hi]) (fun i hi => rfl), ← zx_enc_obj (G := G) (h := zx_upI h o j v) kd]
    exact zx_wl_set rfl (fun q hq => zx_u2_off hq) (fun _ _ => rfl) (fun _ _ => rfl) o1 o2
  have hp : parseFieldDescriptor (T j).2.2.1 = some .int := by rw [hty j hj, hi rfl]
  rcases hlink with hw | ⟨host, hw⟩
  · refine va_put (v := .int v) C.1 C.2.1 C.2.2.2.2.2.2.1 hin ty hty hnm C.2.2.2.2.2.1 hK hP hD hS (o - 1) he hc j hj (C.2.2.2.2.2.2.1 _ hw) (fun x9 h9 => hC ▸ h9) hfin hp rfl rfl (by rw [zx_fs_len]; omega) d (fun H1 locs1 hP1 hD1 hS1 => ?_)
    rw [hset] at hP1 hD1
    exact k D G α A p e s m args below meth c H1 locs1 ls C ⟨hK, hA, hP1, hD1, hS1, hok, hfr⟩ hl
  · refine va_putN (v := .int v) C.1 C.2.1 C.2.2.2.2.2.2.1 hin ty hty hnm C.2.2.2.2.2.1 hK hP hD hS (o - 1) he hc j hj (C.2.2.2.2.2.2.1 _ hw) (fun x9 h9 => hC ▸ h9) hfin hp rfl rfl (by rw [zx_fs_len]; omega) d (fun H1 locs1 hP1 hD1 hS1 => ?_)
    rw [hset] at hP1 hD1
    exact k D G α A p e s m args below meth c H1 locs1 ls C ⟨hK, hA, hP1, hD1, hS1, hok, hfr⟩ hl
theorem zx_putR {o ci j idx v : Nat} (f : zx_fld M.1.cls idx ci j true false) (kd : (h.1.2 o).1 = ci + 5) (hci : ci < 90) (nz : v ≠ 0) (d : decode M.2.1 pc = .ok (.putfield idx, 3)) (k : zx_X l rm M fl kc ks Z (pc + 3) L S (zx_upR h o j v)) : zx_X l rm M fl kc ks Z pc L (.ref v :: .ref o :: S) h := by
  intro D G α A p e s m args below meth c H locs ls C R hl
  obtain ⟨Cn, T, N, ty, hc, hj, hin, hty, hnm, hlen, hR, hfin, hi, hr, hf, hC, hlink⟩ := f
  obtain ⟨hK, hA, hP, hD, hS, hok, hfr⟩ := R
  obtain ⟨o1, o2, -⟩ := hok o (by omega)
  have he : (zx_wl G α h)[o - 1]? = some (α o, .inr (ci, zx_fs (zx_ft ci) α (h.2.1 o) (h.2.2.1 o))) := by rw [zx_wl_at o1 o2, zx_enc_obj kd]
  have hset : (zx_wl G α h).set (o - 1) (α o, .inr (ci, (zx_fs (zx_ft ci) α (h.2.1 o) (h.2.2.1 o)).set j (.ref (α v)))) = zx_wl G α (zx_upR h o j v) := by
    rw [zx_fs_set (ft := zx_ft ci) (α := α) (I := h.2.1 o) (R := h.2.2.1 o) (j := j) (v := .ref (α v)) (I' := (zx_upR h o j v).2.1 o) (R' := (zx_upR h o j v).2.2.1 o) (by omega) (by rw [hR]; simp [zx_upR, zx_u2, zx_nul, nz]) (fun i hi => rfl) (fun i hi => by simp [zx_upR, zx_u2, hi]), ← zx_enc_obj (G := G) (h := zx_upR h o j v) kd]
    exact zx_wl_set rfl (fun _ _ => rfl) (fun q hq => zx_u2_off hq) (fun _ _ => rfl) o1 o2
  have hq := zx_fits_ref (hr rfl) (α v)
  rcases hlink with hw | ⟨host, hw⟩
  · refine va_put (v := .ref (α v)) C.1 C.2.1 C.2.2.2.2.2.2.1 hin ty hty hnm C.2.2.2.2.2.1 hK hP hD hS (o - 1) he hc j hj (C.2.2.2.2.2.2.1 _ hw) (fun x9 h9 => hC ▸ h9) hfin (hty j hj) hq.1 hq.2 (by rw [zx_fs_len]; omega) d (fun H1 locs1 hP1 hD1 hS1 => ?_)
    rw [hset] at hP1 hD1
    exact k D G α A p e s m args below meth c H1 locs1 ls C ⟨hK, hA, hP1, hD1, hS1, hok, hfr⟩ hl
  · refine va_putN (v := .ref (α v)) C.1 C.2.1 C.2.2.2.2.2.2.1 hin ty hty hnm C.2.2.2.2.2.1 hK hP hD hS (o - 1) he hc j hj (C.2.2.2.2.2.2.1 _ hw) (fun x9 h9 => hC ▸ h9) hfin (hty j hj) hq.1 hq.2 (by rw [zx_fs_len]; omega) d (fun H1 locs1 hP1 hD1 hS1 => ?_)
    rw [hset] at hP1 hD1
    exact k D G α A p e s m args below meth c H1 locs1 ls C ⟨hK, hA, hP1, hD1, hS1, hok, hfr⟩ hl
/-- a final field, in its own class's constructor -/
theorem zx_putF {o ci j idx v : Nat} (f : zx_fld M.1.cls idx ci j true true) (kd : (h.1.2 o).1 = ci + 5) (hci : ci < 90) (nz : v ≠ 0) (hin0 : M.1.name = "<init>") (hw : ∀ (T : u_T) (C : String) (N : Nat), zx_cl[ci]? = some (C, T, N) → Cond.fieldLink M.1.cls idx C (T j).2.1 (T j).2.2.1 ∈ zx_T) (d : decode M.2.1 pc = .ok (.putfield idx, 3)) (k : zx_X l rm M fl kc ks Z (pc + 3) L S (zx_upR h o j v)) : zx_X l rm M fl kc ks Z pc L (.ref v :: .ref o :: S) h := by
  intro D G α A p e s m args below meth c H locs ls C R hl
  obtain ⟨Cn, T, N, ty, hc, hj, hin, hty, hnm, hlen, hR, hfin, hi, hr, hf, hC, hlink⟩ := f
  obtain ⟨hK, hA, hP, hD, hS, hok, hfr⟩ := R
  obtain ⟨o1, o2, -⟩ := hok o (by omega)
  have he : (zx_wl G α h)[o - 1]? = some (α o, .inr (ci, zx_fs (zx_ft ci) α (h.2.1 o) (h.2.2.1 o))) := by rw [zx_wl_at o1 o2, zx_enc_obj kd]
  have hset : (zx_wl G α h).set (o - 1) (α o, .inr (ci, (zx_fs (zx_ft ci) α (h.2.1 o) (h.2.2.1 o)).set j (.ref (α v)))) = zx_wl G α (zx_upR h o j v) := by
    rw [zx_fs_set (ft := zx_ft ci) (α := α) (I := h.2.1 o) (R := h.2.2.1 o) (j := j) (v := .ref (α v)) (I' := (zx_upR h o j v).2.1 o) (R' := (zx_upR h o j v).2.2.1 o) (by omega) (by rw [hR]; simp [zx_upR, zx_u2, zx_nul, nz]) (fun i hi => rfl) (fun i hi => by simp [zx_upR, zx_u2, hi]), ← zx_enc_obj (G := G) (h := zx_upR h o j v) kd]
    exact zx_wl_set rfl (fun _ _ => rfl) (fun q hq => zx_u2_off hq) (fun _ _ => rfl) o1 o2
  have hq := zx_fits_ref (hr rfl) (α v)
  refine va_putF (v := .ref (α v)) C.1 C.2.1 C.2.2.2.2.2.2.1 hin ty hty hnm C.2.2.2.2.2.1 hK hP hD hS (o - 1) he hc j hj (C.2.2.2.2.2.2.1 _ (hw T Cn N hc)) (fun x9 h9 => hC ▸ h9) hfin (C.2.2.2.2.2.2.2 hin0) (hf rfl) (hty j hj) hq.1 hq.2 (by rw [zx_fs_len]; omega) d (fun H1 locs1 hP1 hD1 hS1 => ?_)
  rw [hset] at hP1 hD1
  exact k D G α A p e s m args below meth c H1 locs1 ls C ⟨hK, hA, hP1, hD1, hS1, hok, hfr⟩ hl
theorem zx_iald {q n : Nat} {x : Int32} (j : Nat) (kd : h.1.2 q = (0, n)) (hx : x = nI j) (hj : j < n) (d : decode M.2.1 pc = .ok (.iaload, 1)) (k : zx_X l rm M fl kc ks Z (pc + 1) L (.int (h.2.1 q j) :: S) h) : zx_X l rm M fl kc ks Z pc L (.int x :: .ref q :: S) h := by
  intro D G α A p e s m args below meth c H locs ls C R hl
  have hk := k D G α A p e s m args below meth c H locs ls C R hl
  obtain ⟨hK, hA, hP, hD, hS, hok, hfr⟩ := R
  obtain ⟨o1, o2, o3⟩ := hok q (by rw [kd]; omega)
  rw [kd] at o3
  have he : (zx_wl G α h)[q - 1]? = some (α q, .inl (G.1, n, .inl (h.2.1 q))) := by rw [zx_wl_at o1 o2, zx_enc_int kd]
  subst hx
  refine va_iald C.1 C.2.1 hK hP (q - 1) 0 he rfl (vp_in_nI hj o3) d ?_
  rw [nI_clamp (by omega)]
  exact hk
theorem zx_zald {q n : Nat} {x : Int32} (j : Nat) (kd : h.1.2 q = (1, n)) (hx : x = nI j) (hj : j < n) (d : decode M.2.1 pc = .ok (.baload, 1)) (k : zx_X l rm M fl kc ks Z (pc + 1) L (.int (h.2.1 q j) :: S) h) : zx_X l rm M fl kc ks Z pc L (.int x :: .ref q :: S) h := by
  intro D G α A p e s m args below meth c H locs ls C R hl
  have hk := k D G α A p e s m args below meth c H locs ls C R hl
  obtain ⟨hK, hA, hP, hD, hS, hok, hfr⟩ := R
  obtain ⟨o1, o2, o3⟩ := hok q (by rw [kd]; omega)
  rw [kd] at o3
  have he : (zx_wl G α h)[q - 1]? = some (α q, .inl (G.2.1, n, .inl (h.2.1 q))) := by rw [zx_wl_at o1 o2, zx_enc_bool kd]
  subst hx
  refine va_zald C.1 C.2.1 hK hP (q - 1) 1 he rfl (vp_in_nI hj o3) d ?_
  rw [nI_clamp (by omega)]
  exact hk
theorem zx_lald {q n : Nat} {x : Int32} (j : Nat) (kd : h.1.2 q = (2, n)) (hx : x = nI j) (hj : j < n) (d : decode M.2.1 pc = .ok (.laload, 1)) (k : zx_X l rm M fl kc ks Z (pc + 1) L (.long (h.2.2.2 q j) :: S) h) : zx_X l rm M fl kc ks Z pc L (.int x :: .ref q :: S) h := by
  intro D G α A p e s m args below meth c H locs ls C R hl
  have hk := k D G α A p e s m args below meth c H locs ls C R hl
  obtain ⟨hK, hA, hP, hD, hS, hok, hfr⟩ := R
  obtain ⟨o1, o2, o3⟩ := hok q (by rw [kd]; omega)
  rw [kd] at o3
  have he : (zx_wl G α h)[q - 1]? = some (α q, .inl (G.2.2.1, n, .inr (.inl (h.2.2.2 q)))) := by rw [zx_wl_at o1 o2, zx_enc_long kd]
  subst hx
  refine va_lald C.1 C.2.1 hK hP (q - 1) 2 he rfl (vp_in_nI hj o3) d ?_
  rw [nI_clamp (by omega)]
  exact hk
theorem zx_iast {q n : Nat} {x v : Int32} (j : Nat) (kd : h.1.2 q = (0, n)) (hx : x = nI j) (hj : j < n) (d : decode M.2.1 pc = .ok (.iastore, 1)) (k : zx_X l rm M fl kc ks Z (pc + 1) L S (zx_upI h q j v)) : zx_X l rm M fl kc ks Z pc L (.int v :: .int x :: .ref q :: S) h := by
  intro D G α A p e s m args below meth c H locs ls C R hl
  obtain ⟨hK, hA, hP, hD, hS, hok, hfr⟩ := R
  obtain ⟨o1, o2, o3⟩ := hok q (by rw [kd]; omega)
  rw [kd] at o3
  have he : (zx_wl G α h)[q - 1]? = some (α q, .inl (G.1, n, .inl (h.2.1 q))) := by rw [zx_wl_at o1 o2, zx_enc_int kd]
  subst hx
  refine va_iast C.1 C.2.1 hK hP hD hS (q - 1) 0 he rfl (vp_in_nI hj o3) d (fun H1 locs1 hP1 hD1 hS1 => ?_)
  have hset : (zx_wl G α h).set (q - 1) (α q, .inl (G.1, n, .inl (upd (h.2.1 q) (nI j).toNatClampNeg v))) = zx_wl G α (zx_upI h q j v) := by
    rw [nI_clamp (by omega), ← zx_u2_on]
    rw [show (.inl (G.1, n, .inl (zx_u2 h.2.1 q j v q)) : va_E) = zx_enc G α (zx_upI h q j v) q from (zx_enc_int (h := zx_upI h q j v) kd).symm]
    exact zx_wl_set rfl (fun q hq => zx_u2_off hq) (fun _ _ => rfl) (fun _ _ => rfl) o1 o2
  rw [hset] at hP1 hD1
  exact k D G α A p e s m args below meth c H1 locs1 ls C ⟨hK, hA, hP1, hD1, hS1, hok, hfr⟩ hl
theorem zx_zast {q n : Nat} {x v : Int32} (j : Nat) (kd : h.1.2 q = (1, n)) (hx : x = nI j) (hj : j < n) (hv : vp_nar .boolean v = v) (d : decode M.2.1 pc = .ok (.bastore, 1)) (k : zx_X l rm M fl kc ks Z (pc + 1) L S (zx_upI h q j v)) : zx_X l rm M fl kc ks Z pc L (.int v :: .int x :: .ref q :: S) h := by
  intro D G α A p e s m args below meth c H locs ls C R hl
  obtain ⟨hK, hA, hP, hD, hS, hok, hfr⟩ := R
  obtain ⟨o1, o2, o3⟩ := hok q (by rw [kd]; omega)
  rw [kd] at o3
  have he : (zx_wl G α h)[q - 1]? = some (α q, .inl (G.2.1, n, .inl (h.2.1 q))) := by rw [zx_wl_at o1 o2, zx_enc_bool kd]
  subst hx
  refine va_zast C.1 C.2.1 hK hP hD hS (q - 1) 1 he rfl (vp_in_nI hj o3) d (fun H1 locs1 hP1 hD1 hS1 => ?_)
  have hset : (zx_wl G α h).set (q - 1) (α q, .inl (G.2.1, n, .inl (upd (h.2.1 q) (nI j).toNatClampNeg (vp_nar .boolean v)))) = zx_wl G α (zx_upI h q j v) := by
    rw [hv, nI_clamp (by omega), ← zx_u2_on]
    rw [show (.inl (G.2.1, n, .inl (zx_u2 h.2.1 q j v q)) : va_E) = zx_enc G α (zx_upI h q j v) q from (zx_enc_bool (h := zx_upI h q j v) kd).symm]
    exact zx_wl_set rfl (fun q hq => zx_u2_off hq) (fun _ _ => rfl) (fun _ _ => rfl) o1 o2
  rw [hset] at hP1 hD1
  exact k D G α A p e s m args below meth c H1 locs1 ls C ⟨hK, hA, hP1, hD1, hS1, hok, hfr⟩ hl
theorem zx_last {q n : Nat} {x : Int32} {v : Int64} (j : Nat) (kd : h.1.2 q = (2, n)) (hx : x = nI j) (hj : j < n) (d : decode M.2.1 pc = .ok (.lastore, 1)) (k : zx_X l rm M fl kc ks Z (pc + 1) L S (zx_upJ h q j v)) : zx_X l rm M fl kc ks Z pc L (.long v :: .int x :: .ref q :: S) h := by
  intro D G α A p e s m args below meth c H locs ls C R hl
  obtain ⟨hK, hA, hP, hD, hS, hok, hfr⟩ := R
  obtain ⟨o1, o2, o3⟩ := hok q (by rw [kd]; omega)
  rw [kd] at o3
  have he : (zx_wl G α h)[q - 1]? = some (α q, .inl (G.2.2.1, n, .inr (.inl (h.2.2.2 q)))) := by rw [zx_wl_at o1 o2, zx_enc_long kd]
  subst hx
  refine va_last C.1 C.2.1 hK hP hD hS (q - 1) 2 he rfl (vp_in_nI hj o3) d (fun H1 locs1 hP1 hD1 hS1 => ?_)
  have hset : (zx_wl G α h).set (q - 1) (α q, .inl (G.2.2.1, n, .inr (.inl (vp_updL (h.2.2.2 q) (nI j).toNatClampNeg v)))) = zx_wl G α (zx_upJ h q j v) := by
    rw [nI_clamp (by omega), ← zx_u2_onL]
    rw [show (.inl (G.2.2.1, n, .inr (.inl (zx_u2 h.2.2.2 q j v q))) : va_E) = zx_enc G α (zx_upJ h q j v) q from (zx_enc_long (h := zx_upJ h q j v) kd).symm]
    exact zx_wl_set rfl (fun _ _ => rfl) (fun _ _ => rfl) (fun q hq => zx_u2_off hq) o1 o2
  rw [hset] at hP1 hD1
  exact k D G α A p e s m args below meth c H1 locs1 ls C ⟨hK, hA, hP1, hD1, hS1, hok, hfr⟩ hl
theorem zx_alen {q n : Nat} (kd : h.1.2 q = (0, n)) (d : decode M.2.1 pc = .ok (.arraylength, 1)) (k : zx_X l rm M fl kc ks Z (pc + 1) L (.int (nI n) :: S) h) : zx_X l rm M fl kc ks Z pc L (.ref q :: S) h := by
  intro D G α A p e s m args below meth c H locs ls C R hl
  have hk := k D G α A p e s m args below meth c H locs ls C R hl
  obtain ⟨hK, hA, hP, hD, hS, hok, hfr⟩ := R
  obtain ⟨o1, o2, o3⟩ := hok q (by rw [kd]; omega)
  have he : (zx_wl G α h)[q - 1]? = some (α q, .inl (G.1, n, .inl (h.2.1 q))) := by rw [zx_wl_at o1 o2, zx_enc_int kd]
  exact va_alen C.1 C.2.1 hK hP (q - 1) 0 he (ty := .int) rfl rfl d hk
theorem zx_aald3 {q n : Nat} {x : Int32} (j : Nat) (kd : h.1.2 q = (3, n)) (hx : x = nI j) (hj : j < n) (nz : h.2.2.1 q j ≠ 0) (d : decode M.2.1 pc = .ok (.aaload, 1)) (k : zx_X l rm M fl kc ks Z (pc + 1) L (.ref (h.2.2.1 q j) :: S) h) : zx_X l rm M fl kc ks Z pc L (.int x :: .ref q :: S) h := by
  intro D G α A p e s m args below meth c H locs ls C R hl
  have hk := k D G α A p e s m args below meth c H locs ls C R hl
  obtain ⟨hK, hA, hP, hD, hS, hok, hfr⟩ := R
  obtain ⟨o1, o2, o3⟩ := hok q (by rw [kd]; omega)
  rw [kd] at o3
  have he : (zx_wl G α h)[q - 1]? = some (α q, .inl (G.2.2.2.1, n, .inr (.inr (.inr (.inr (fun j => zx_opt α (h.2.2.1 q j))))))) := by rw [zx_wl_at o1 o2, zx_enc_q3 kd]
  subst hx
  refine va_aldq C.1 C.2.1 hK hP (q - 1) 3 he rfl (vp_in_nI hj o3) d ?_
  rw [nI_clamp (by omega), show va_rf (zx_opt α (h.2.2.1 q j)) = .ref (α (h.2.2.1 q j)) by simp [zx_opt, nz, va_rf]]
  exact hk
theorem zx_aald4 {q n : Nat} {x : Int32} (j : Nat) (kd : h.1.2 q = (4, n)) (hx : x = nI j) (hj : j < n) (nz : h.2.2.1 q j ≠ 0) (d : decode M.2.1 pc = .ok (.aaload, 1)) (k : zx_X l rm M fl kc ks Z (pc + 1) L (.ref (h.2.2.1 q j) :: S) h) : zx_X l rm M fl kc ks Z pc L (.int x :: .ref q :: S) h := by
  intro D G α A p e s m args below meth c H locs ls C R hl
  have hk := k D G α A p e s m args below meth c H locs ls C R hl
  obtain ⟨hK, hA, hP, hD, hS, hok, hfr⟩ := R
  obtain ⟨o1, o2, o3⟩ := hok q (by rw [kd]; omega)
  rw [kd] at o3
  have he : (zx_wl G α h)[q - 1]? = some (α q, .inl (G.2.2.2.2, n, .inr (.inr (.inr (.inr (fun j => zx_opt α (h.2.2.1 q j))))))) := by rw [zx_wl_at o1 o2, zx_enc_q4 kd]
  subst hx
  have hin := vp_in_nI hj o3
  have hcl := nI_clamp (show j < 2 ^ 31 by omega)
  refine W.aald (v := .ref (α (h.2.2.1 q j))) (ty := .array .int) C.1 C.2.1 (hP (q - 1) _ he) ((hK.2 4 _ rfl).1 n (fun j => va_rf (zx_opt α (h.2.2.1 q j)))) rfl (fun z => by cases z) (by show ¬ (_ < 0 ∨ (arrV _ _ _).slots.size ≤ _); rw [arrV_size]; exact hin) (by show (arrV _ _ _).slots[_]? = _; rw [hcl, arrV_read _ _ hj]; simp [zx_opt, nz, va_rf]) rfl rfl d hk
/-- ends -/
theorem zx_iret {v : Int32} {Q : Option Value → zx_H → Prop} (d : decode M.2.1 pc = .ok (.ireturn, 1)) (hr : M.2.2.2 = some .int) (hq : Q (some (.int v)) h) (h1 : kc ≤ rm.cells) (h2 : ks ≤ rm.slots) (h3 : fl = true → kc = rm.cells) : zx_X l rm M fl kc ks (zx_Zr fl rm Q) pc L [.int v] h := by
  intro D G α A p e s m args below meth c H locs ls C R hl
  obtain ⟨hK, hA, hP, hD, hS, hok, hfr⟩ := R
  have hfr : fl = true → zx_fr α (s.heap.size + rm.cells) h ∧ rm.cells ≤ h.1.1 := fun q => by rw [← h3 q]; exact hfr q
  refine W.widen (k := rm.cells) (n := rm.slots) h1 h2 ?_
  exact W.iret C.1 C.2.1 (C.2.2.2.1.trans hr) (fun t ht hW => ⟨⟨some (.int v), h, rfl, hq, by rw [ht]; exact hP, hD, va_K.moved hW.alike hK, hok, hfr⟩, hS.F ht⟩) hS.2.2 d C.2.2.2.2.1
theorem zx_zret {v : Int32} {Q : Option Value → zx_H → Prop} (d : decode M.2.1 pc = .ok (.ireturn, 1)) (hr : M.2.2.2 = some .boolean) (hn : narrow .boolean (.int v) = .int v) (hq : Q (some (.int v)) h) (h1 : kc ≤ rm.cells) (h2 : ks ≤ rm.slots) (h3 : fl = true → kc = rm.cells) : zx_X l rm M fl kc ks (zx_Zr fl rm Q) pc L [.int v] h := by
  intro D G α A p e s m args below meth c H locs ls C R hl
  obtain ⟨hK, hA, hP, hD, hS, hok, hfr⟩ := R
  have hfr : fl = true → zx_fr α (s.heap.size + rm.cells) h ∧ rm.cells ≤ h.1.1 := fun q => by rw [← h3 q]; exact hfr q
  refine W.widen (k := rm.cells) (n := rm.slots) h1 h2 ?_
  exact W.zret C.1 C.2.1 (C.2.2.2.1.trans hr) hn (fun t ht hW => ⟨⟨some (.int v), h, rfl, hq, by rw [ht]; exact hP, hD, va_K.moved hW.alike hK, hok, hfr⟩, hS.F ht⟩) hS.2.2 d C.2.2.2.2.1
theorem zx_vret {Q : Option Value → zx_H → Prop} (d : decode M.2.1 pc = .ok (.return_, 1)) (hr : M.2.2.2 = none) (hq : Q none h) (h1 : kc ≤ rm.cells) (h2 : ks ≤ rm.slots) (h3 : fl = true → kc = rm.cells) : zx_X l rm M fl kc ks (zx_Zr fl rm Q) pc L [] h := by
  intro D G α A p e s m args below meth c H locs ls C R hl
  obtain ⟨hK, hA, hP, hD, hS, hok, hfr⟩ := R
  have hfr : fl = true → zx_fr α (s.heap.size + rm.cells) h ∧ rm.cells ≤ h.1.1 := fun q => by rw [← h3 q]; exact hfr q
  refine W.widen (k := rm.cells) (n := rm.slots) h1 h2 ?_
  exact W.vret C.1 C.2.1 (C.2.2.2.1.trans hr) (fun t ht hW => ⟨⟨none, h, rfl, hq, by rw [ht]; exact hP, hD, va_K.moved hW.alike hK, hok, hfr⟩, hS.F ht⟩) hS.2.2 d C.2.2.2.2.1
end ZY
end
section
/-! Calls. -/
abbrev zx_rm (d c s : Nat) : Room := { frames := d, cells := c, slots := s, locals := 40 * d }
theorem zx_size {D : va_G} {G : zx_G} {α : Nat → Nat} {A : Nat → Prop} {fl : Bool} {kc : Nat} {h : zx_H} {s : State} {H : Heap} {locs : List Loc} (R : zx_R D G α A fl kc h s H locs) (hu : H.size ≤ s.heap.size + kc) (hf : fl = true) : H.size = s.heap.size + kc := by
  obtain ⟨hK, hA, hP, hD, hS, hok, hfr⟩ := R
  obtain ⟨f1, f2⟩ := hfr hf
  by_cases hn : h.1.1 = 0
  · have := hS.1
    omega
  · have a := hP (h.1.1 - 1) _ (zx_wl_at (k := h.1.1) (by omega) (Nat.le_refl _))
    have b : α h.1.1 < H.size := a.lt
    have c := f1 (h.1.1 - 1)
    rw [Nat.sub_add_cancel (by omega)] at c
    omega
theorem zx_catsum (α : Nat → Nat) (S : List Value) : ((S.map (zx_cv α)).map fun v => v.category).sum = (S.map fun v => v.category).sum := by
  rw [List.map_map]
  congr 1
  exact List.map_congr_left (fun v _ => zx_cv_cat α v)
def zx_lk (own : String) (idx : Nat) (M2 : zx_M) (n : Nat) : Prop :=
  Cond.code M2.1 M2.2.1 M2.2.2.1 M2.2.2.2 ∈ zx_T ∧ Cond.initialized M2.1.cls ∈ zx_T ∧ (M2.1.cls ≠ "java/lang/invoke/MethodHandle" ∧ M2.1.cls ≠ "java/lang/invoke/VarHandle" ∧ (parseMethodDescriptor M2.1.desc).map (fun d => d.parameters.length) = some n) ∧ (Cond.methodLink own idx M2.1 ∈ zx_T ∨ ∃ host, Cond.methodLinkNest own idx M2.1 host ∈ zx_T)
theorem zx_good2 {M2 : zx_M} (h : Cond.code M2.1 M2.2.1 M2.2.2.1 M2.2.2.2 ∈ zx_T) : GoodIn zx_T (zx_ws M2) := by
  intro w hw
  rcases List.mem_cons.mp hw with rfl | hw
  · exact ⟨h, zx_Gd _ h⟩
  · exact ⟨hw, zx_Gd _ hw⟩
section ZC
variable {l : Launch} {rm : Room} {M : zx_M} {fl : Bool} {kc ks : Nat} {Z : zx_Zt} {pc : Nat} {L : List (Nat × Value)} {S : List Value} {h : zx_H}
variable {p : Program} {e : Env} {s : State} {m : MethodId} {args : Array Value} {below : List Frame} {meth : Method} {c : Code} {H : Heap} {locs : List Loc} {ls : Array Slot} {D : va_G} {G : zx_G} {α : Nat → Nat} {A : Nat → Prop}
theorem zx_after {Z2 : State → Prop} {st0 rest : List Value} {a : Array Value} {mc ms : Nat} {Q2 : Option Value → zx_H → Prop} (hr : va_Run p l e rm s m args below meth c H locs kc ks mc ms (F0 m pc ls st0) rest (zx_Qc D G α fl mc Q2 (va_A (zx_wl G α h) H.size) a) (va_A (zx_wl G α h) H.size)) (R : zx_R D G α A fl kc h s H locs) (hsz : fl = true → H.size = s.heap.size + kc)
    (kk : ∀ (r : Option Value) (h2 : zx_H) (H1 : Heap) (locs1 : List Loc), Q2 r h2 → zx_R D G α A fl (kc + mc) h2 s H1 locs1 → W p l e rm s m args below meth c H1 locs1 (kc + mc) (ks + ms) Z2 (F0 m (pc + 3) ls ((r.map (zx_cv α)).toList ++ rest))) : W p l e rm s m args below meth c H locs kc ks Z2 (F0 m pc ls st0) := by
  intro T hT X
  obtain ⟨v, st₀, t, T', Lx, h0, X', hL, e1, e2, ⟨⟨r, h2, hv, hq, hP1, hD1, hK1, hok1, hf1⟩, hz, hk⟩, st⟩ := hr T hT X
  cases hv
  rw [h0] at hz hk hf1
  obtain ⟨hK, hA, hP, hD, hS, hok, hfr⟩ := R
  have hFA : ∀ q, va_A (zx_wl G α h) H.size q → A q := by
    rintro q (⟨k, e0, hk⟩ | hk)
    · exact hD.2 k _ hk
    · exact hA q (Nat.le_trans hS.1 hk)
  obtain ⟨t2, a1, b1⟩ := kk r h2 T'.heap (locs ++ Lx) hq ⟨hK, hA, by rw [e1]; exact hP1, hD1.weaken (fun _ _ _ z => hFA _ z), ⟨Nat.le_trans hS.1 (by rw [e1]; exact hz), fun q h1 h2 => by rw [e1, hk q (Nat.lt_of_lt_of_le h1 hS.1) (fun z => h2 (hFA q z))]; exact hS.2.1 q h1 h2, fun q hq => by
      rcases List.mem_append.mp hq with h | h
      · exact hS.2.2 q h
      · exact hFA _ (hL q h)⟩, hok1, fun q => by
      obtain ⟨f1, f2⟩ := hfr q
      obtain ⟨g1, g2⟩ := hf1 q
      have z1 := f1 0
      have z2 := g1 0
      rw [hsz q] at g1 z2
      exact ⟨fun k => by have := g1 k; omega, by omega⟩⟩ T' rfl X'
  exact ⟨t2, st t2 a1, b1⟩
theorem zx_pre {M2 : zx_M} {As : List Value} (R : zx_R D G α A fl kc h s H locs) (hsz : fl = true → H.size = s.heap.size + kc) : PreS s H (va_Pc (As.map (zx_cv α)) (fun U => U.heap.size = H.size ∧ va_P D zx_cl (zx_wl G α h) U.heap ∧ zx_K D G U ∧ va_D (fun _ => True) (zx_wl G α h) ∧ zx_ok h ∧ (fl = true → zx_fr α H.size h))) (As.map (zx_cv α)) := by
  obtain ⟨hK, hA, hP, hD, hS, hok, hfr⟩ := R
  refine ⟨fun a U g mk q => ?_, fun U hU hW => ⟨rfl, by rw [hU], by rw [hU]; exact hP, va_K.moved hW.alike hK, hD.weaken (fun _ _ _ _ => trivial), hok, fun q => ?_⟩⟩
  · obtain ⟨q0, q1, qP, qK, qD, qo, qf⟩ := q
    exact ⟨q0, q1, qP, va_K.moved (u := U) (U := U.calling g mk a) (Vm.Alike.refl U.vm) qK, qD, qo, qf⟩
  · rw [hsz q]
    exact (hfr q).1
end ZC
section ZD
variable {l : Launch} {rm : Room} {M : zx_M} {fl : Bool} {kc ks : Nat} {Z : zx_Zt} {pc : Nat} {L : List (Nat × Value)} {S : List Value} {h : zx_H}
theorem zx_callV {M2 : zx_M} {rm2 : Room} {b idx n ci N : Nat} {T0 : u_T} {As S2 : List Value} {Q2 : Option Value → zx_H → Prop} (hC : zx_C l rm2 M2 fl (.ref b :: As) h Q2) (lk : zx_lk M.1.cls idx M2 n) (li : Cond.instanceMethod M2.1 ∈ zx_T) (lse : Cond.selects M2.1.cls M2.1 M2.1 ∈ zx_T) (hn : As.length = n) (kd : (h.1.2 b).1 = ci + 5) (hci : ci < 90) (hcl : zx_cl[ci]? = some (M2.1.cls, T0, N)) (hS : S = As.reverse ++ .ref b :: S2) (hW : (S2.map fun v => v.category).sum ≤ 8) (hrm : rm2.frames + 1 ≤ rm.frames ∧ 8 + (M2.2.2.1 + 11) + rm2.locals ≤ rm.locals) (hcs : kc + rm2.cells ≤ rm.cells ∧ ks + rm2.slots ≤ rm.slots) (d : decode M.2.1 pc = .ok (.invokevirtual idx, 3))
    (k : ∀ r h2, Q2 r h2 → zx_X l rm M fl (kc + rm2.cells) (ks + rm2.slots) Z (pc + 3) L (r.toList ++ S2) h2) : zx_X l rm M fl kc ks Z pc L S h := by
  intro D G α A p e s m args below meth c H locs ls C R hl T hT X
  have hsz : fl = true → H.size = s.heap.size + kc := fun q => zx_size R (by rw [← hT]; exact X.heapSize) q
  obtain ⟨l1, l2, l3, l4⟩ := lk
  have hts := C.2.2.2.2.2.2.1
  have hpre := zx_pre (M2 := M2) (As := .ref b :: As) R hsz
  obtain ⟨o1, o2, -⟩ := R.2.2.2.2.2.1 b (by omega)
  have he : (zx_wl G α h)[b - 1]? = some (α b, .inr (ci, zx_fs (zx_ft ci) α (h.2.1 b) (h.2.2.1 b))) := by rw [zx_wl_at o1 o2, zx_enc_obj kd]
  have hrec := va_recv R.1 R.2.2.1 hcl he
  have hst : S.map (zx_cv α) = (As.map (zx_cv α)).reverse ++ .ref (α b) :: S2.map (zx_cv α) := by rw [hS]; simp [zx_cv]
  have hsig : ∀ sig, parseMethodDescriptor M2.1.desc = some sig → n = sig.parameters.length := fun sig hg => by
    have h2 := l3.2.2
    rw [hg] at h2
    exact (Option.some.inj h2).symm
  have hFix : CallFix p m c M.2.1 M.2.2.1 s args zx_T M.1.cls := ⟨C.1, C.2.1, C.2.2.1, C.2.2.2.2.2.1, hts⟩
  have hmem : Cond.code M2.1 M2.2.1 M2.2.2.1 M2.2.2.2 ∈ zx_ws M2 := List.mem_cons_self
  have hr : va_Run p l e rm s m args below meth c H locs kc ks rm2.cells rm2.slots (F0 m pc ls (S.map (zx_cv α))) (S2.map (zx_cv α)) (zx_Qc D G α fl rm2.cells Q2 (va_A (zx_wl G α h) H.size) (Value.ref (α b) :: As.map (zx_cv α)).toArray) (va_A (zx_wl G α h) H.size) := by
    rcases l4 with hl4 | ⟨host, hl4⟩
    · exact va_runV hFix (hC D G α H.size) ⟨⟨rfl, rfl, hrm.1, hrm.2, pay_in hts (zx_good2 l1), hmem, hts _ l1, hts _ l2, ⟨l3.1, l3.2.1⟩, hsig, hts _ hl4⟩, hts _ li, hts _ lse⟩ ⟨hpre.1, hrec, hpre.2⟩ rfl (by rw [List.length_map]; exact hn) hl.1 hst (lv_room (by rw [zx_catsum]; exact hW)) d hcs
    · exact va_runVN hFix (hC D G α H.size) ⟨⟨⟨rfl, rfl, hrm.1, hrm.2, pay_in hts (zx_good2 l1), hmem⟩, hts _ l1, hts _ l2, ⟨l3.1, l3.2.1⟩, hsig, hts _ hl4⟩, hts _ li, hts _ lse⟩ ⟨hpre.1, hrec, hpre.2⟩ rfl (by rw [List.length_map]; exact hn) hl.1 hst (lv_room (by rw [zx_catsum]; exact hW)) d hcs
  refine zx_after hr R hsz (fun r h2 H1 locs1 hq R1 => ?_) T hT X
  have := k r h2 hq D G α A p e s m args below meth c H1 locs1 ls C R1 hl
  rw [List.map_append] at this
  cases r <;> exact this
theorem zx_callS {M2 : zx_M} {rm2 : Room} {idx n : Nat} {As S2 : List Value} {Q2 : Option Value → zx_H → Prop} (hC : zx_C l rm2 M2 fl As h Q2) (lk : zx_lk M.1.cls idx M2 n) (li : Cond.static M2.1 ∈ zx_T) (hn : As.length = n) (hS : S = As.reverse ++ S2) (hW : (S2.map fun v => v.category).sum ≤ 8) (hrm : rm2.frames + 1 ≤ rm.frames ∧ 8 + (M2.2.2.1 + 11) + rm2.locals ≤ rm.locals) (hcs : kc + rm2.cells ≤ rm.cells ∧ ks + rm2.slots ≤ rm.slots) (d : decode M.2.1 pc = .ok (.invokestatic idx, 3))
    (k : ∀ r h2, Q2 r h2 → zx_X l rm M fl (kc + rm2.cells) (ks + rm2.slots) Z (pc + 3) L (r.toList ++ S2) h2) : zx_X l rm M fl kc ks Z pc L S h := by
  intro D G α A p e s m args below meth c H locs ls C R hl T hT X
  have hsz : fl = true → H.size = s.heap.size + kc := fun q => zx_size R (by rw [← hT]; exact X.heapSize) q
  obtain ⟨l1, l2, l3, l4⟩ := lk
  have hts := C.2.2.2.2.2.2.1
  have hpre := zx_pre (M2 := M2) (As := As) R hsz
  have hst : S.map (zx_cv α) = (As.map (zx_cv α)).reverse ++ S2.map (zx_cv α) := by rw [hS]; simp
  have hsig : ∀ sig, parseMethodDescriptor M2.1.desc = some sig → n = sig.parameters.length := fun sig hg => by
    have h2 := l3.2.2
    rw [hg] at h2
    exact (Option.some.inj h2).symm
  have hFix : CallFix p m c M.2.1 M.2.2.1 s args zx_T M.1.cls := ⟨C.1, C.2.1, C.2.2.1, C.2.2.2.2.2.1, hts⟩
  have hmem : Cond.code M2.1 M2.2.1 M2.2.2.1 M2.2.2.2 ∈ zx_ws M2 := List.mem_cons_self
  have hr : va_Run p l e rm s m args below meth c H locs kc ks rm2.cells rm2.slots (F0 m pc ls (S.map (zx_cv α))) (S2.map (zx_cv α)) (zx_Qc D G α fl rm2.cells Q2 (va_A (zx_wl G α h) H.size) (As.map (zx_cv α)).toArray) (va_A (zx_wl G α h) H.size) := by
    rcases l4 with hl4 | ⟨host, hl4⟩
    · exact va_runS hFix (hC D G α H.size) ⟨⟨rfl, rfl, hrm.1, hrm.2, pay_in hts (zx_good2 l1), hmem, hts _ l1, hts _ l2, ⟨l3.1, l3.2.1⟩, hsig, hts _ hl4⟩, hts _ li⟩ hpre rfl (by rw [List.length_map]; exact hn) hl.1 hst (lv_room (by rw [zx_catsum]; exact hW)) d hcs
    · exact va_runSN hFix (hC D G α H.size) ⟨⟨⟨rfl, rfl, hrm.1, hrm.2, pay_in hts (zx_good2 l1), hmem⟩, hts _ l1, hts _ l2, ⟨l3.1, l3.2.1⟩, hsig, hts _ hl4⟩, hts _ li, trivial⟩ hpre rfl (by rw [List.length_map]; exact hn) hl.1 hst (lv_room (by rw [zx_catsum]; exact hW)) d hcs
  refine zx_after hr R hsz (fun r h2 H1 locs1 hq R1 => ?_) T hT X
  have := k r h2 hq D G α A p e s m args below meth c H1 locs1 ls C R1 hl
  rw [List.map_append] at this
  cases r <;> exact this
theorem zx_callI {M2 : zx_M} {rm2 : Room} {b idx n : Nat} {As S2 : List Value} {Q2 : Option Value → zx_H → Prop} (hC : zx_C l rm2 M2 fl (.ref b :: As) h Q2) (lk : zx_lk M.1.cls idx M2 n) (li : Cond.instanceMethod M2.1 ∈ zx_T) (hret : M2.2.2.2 = none) (hnm : M2.1.name = "<init>") (hn : As.length = n) (hS : S = As.reverse ++ .ref b :: S2) (hW : (S2.map fun v => v.category).sum ≤ 8) (hrm : rm2.frames + 1 ≤ rm.frames ∧ 8 + (M2.2.2.1 + 11) + rm2.locals ≤ rm.locals) (hcs : kc + rm2.cells ≤ rm.cells ∧ ks + rm2.slots ≤ rm.slots) (d : decode M.2.1 pc = .ok (.invokespecial idx, 3))
    (k : ∀ r h2, Q2 r h2 → zx_X l rm M fl (kc + rm2.cells) (ks + rm2.slots) Z (pc + 3) L (r.toList ++ S2) h2) : zx_X l rm M fl kc ks Z pc L S h := by
  intro D G α A p e s m args below meth c H locs ls C R hl T hT X
  have hsz : fl = true → H.size = s.heap.size + kc := fun q => zx_size R (by rw [← hT]; exact X.heapSize) q
  obtain ⟨l1, l2, l3, l4⟩ := lk
  have hts := C.2.2.2.2.2.2.1
  have hpre := zx_pre (M2 := M2) (As := .ref b :: As) R hsz
  have hst : S.map (zx_cv α) = (As.map (zx_cv α)).reverse ++ .ref (α b) :: S2.map (zx_cv α) := by rw [hS]; simp [zx_cv]
  have hsig : ∀ sig, parseMethodDescriptor M2.1.desc = some sig → n = sig.parameters.length := fun sig hg => by
    have h2 := l3.2.2
    rw [hg] at h2
    exact (Option.some.inj h2).symm
  have hFix : CallFix p m c M.2.1 M.2.2.1 s args zx_T M.1.cls := ⟨C.1, C.2.1, C.2.2.1, C.2.2.2.2.2.1, hts⟩
  have hmem : Cond.code M2.1 M2.2.1 M2.2.2.1 none ∈ zx_ws M2 := by rw [← hret]; exact List.mem_cons_self
  have l1n : Cond.code M2.1 M2.2.1 M2.2.2.1 none ∈ zx_T := by rw [← hret]; exact l1
  have hr : va_Run p l e rm s m args below meth c H locs kc ks rm2.cells rm2.slots (F0 m pc ls (S.map (zx_cv α))) (S2.map (zx_cv α)) (zx_Qc D G α fl rm2.cells Q2 (va_A (zx_wl G α h) H.size) (Value.ref (α b) :: As.map (zx_cv α)).toArray) (va_A (zx_wl G α h) H.size) := by
    rcases l4 with hl4 | ⟨host, hl4⟩
    · exact va_runI hFix (hC D G α H.size) ⟨⟨rfl, rfl, hrm.1, hrm.2, pay_in hts (zx_good2 l1), hmem, hts _ l1n, hts _ l2, ⟨l3.1, l3.2.1⟩, hsig, hts _ hl4⟩, hnm, hts _ li⟩ hpre rfl (by rw [List.length_map]; exact hn) hl.1 hst (lv_room (by rw [zx_catsum]; exact hW)) d hcs
    · exact va_runIN hFix (hC D G α H.size) ⟨⟨⟨rfl, rfl, hrm.1, hrm.2, pay_in hts (zx_good2 l1), hmem⟩, hts _ l1n, hts _ l2, ⟨l3.1, l3.2.1⟩, hsig, hts _ hl4⟩, hnm, hts _ li⟩ hpre rfl (by rw [List.length_map]; exact hn) hl.1 hst (lv_room (by rw [zx_catsum]; exact hW)) d hcs
  refine zx_after hr R hsz (fun r h2 H1 locs1 hq R1 => ?_) T hT X
  have := k r h2 hq D G α A p e s m args below meth c H1 locs1 ls C R1 hl
  rw [List.map_append] at this
  cases r <;> exact this
/-- Object's constructor -/
theorem zx_objInit {idx o : Nat} (w1 : Cond.methodLink M.1.cls idx Lib.objectInit ∈ zx_T) (w2 : Cond.instanceMethod Lib.objectInit ∈ zx_T) (w3 : Cond.code Lib.objectInit ⟨#[0xb1]⟩ 1 none ∈ zx_T) (hr : 1 ≤ rm.frames) (hlo : (S.map fun v => v.category).sum + 12 ≤ rm.locals) (d : decode M.2.1 pc = .ok (.invokespecial idx, 3)) (k : zx_X l rm M fl kc ks Z (pc + 3) L S h) : zx_X l rm M fl kc ks Z pc L (.ref o :: S) h := by
  intro D G α A p e s m args below meth c H locs ls C R hl
  have hts := C.2.2.2.2.2.2.1
  exact W.objInit C.1 C.2.1 C.2.2.2.2.2.1 (hts _ w1) (hts _ w2) (hts _ w3) rfl (hl.1.trans C.2.2.1.symm) rfl d hr (by show 2 * 0 + _ + 12 ≤ _; rw [zx_catsum]; omega) (k D G α A p e s m args below meth c H locs ls C R hl)
end ZD
end
section
/-! Heaps in which only the ints change: K (kinds) and RJ (references, longs) stay. -/
abbrev zx_Kt : Type := Nat × (Nat → Nat × Nat)
abbrev zx_RJ : Type := (Nat → Nat → Nat) × (Nat → Nat → Int64)
abbrev zi_I : Type := Nat → Nat → Int32
abbrev zi_Q : Type := Option Value → zi_I → Prop
abbrev zi_P (K : zx_Kt) (RJ : zx_RJ) (Q : zi_Q) : Option Value → zx_H → Prop := fun r h => ∃ I : zi_I, h = (K, I, RJ) ∧ Q r I
abbrev zi_X (l : Launch) (rm : Room) (M : zx_M) (K : zx_Kt) (RJ : zx_RJ) (Q : zi_Q) (pc : Nat) (L : List (Nat × Value)) (S : List Value) (I : zi_I) : Prop := zx_X l rm M false 0 0 (zx_Zr false rm (zi_P K RJ Q)) pc L S (K, I, RJ)
abbrev zi_C (l : Launch) (rm : Room) (M : zx_M) (As : List Value) (K : zx_Kt) (RJ : zx_RJ) (I : zi_I) (Q : zi_Q) : Prop := zx_C l rm M false As (K, I, RJ) (zi_P K RJ Q)
theorem zx_C.mono {l : Launch} {rm : Room} {M : zx_M} {fl : Bool} {As : List Value} {h : zx_H} {Q Q2 : Option Value → zx_H → Prop} (hC : zx_C l rm M fl As h Q) (hq : ∀ r h2, Q r h2 → Q2 r h2) : zx_C l rm M fl As h Q2 := by
  intro D G α sz p e ha hc hk s m args below hf happ hP hK
  obtain ⟨n, o, h1, h2, h3, ⟨⟨⟨r, h', ho, hQ, hrest⟩, hF⟩, hL⟩⟩ := hC D G α sz p e ha hc hk s m args below hf happ hP hK
  exact ⟨n, o, h1, h2, h3, ⟨⟨⟨r, h', ho, hq _ _ hQ, hrest⟩, hF⟩, hL⟩⟩
theorem zi_mono {l : Launch} {rm : Room} {M : zx_M} {As : List Value} {K : zx_Kt} {RJ : zx_RJ} {I : zi_I} {Q Q2 : zi_Q} (hC : zi_C l rm M As K RJ I Q) (hq : ∀ r I2, Q r I2 → Q2 r I2) : zi_C l rm M As K RJ I Q2 := hC.mono (fun r h2 ⟨I2, e, q⟩ => ⟨I2, e, hq r I2 q⟩)
theorem zi_of {l : Launch} {d : Nat} {M : zx_M} {As : List Value} {K : zx_Kt} {RJ : zx_RJ} {I : zi_I} {Q : zi_Q} (hy : plainName M.1.cls = true) (hn : ∀ α : Nat → Nat, (lg_sl (As.map (zx_cv α))).length ≤ M.2.2.1) (k : zi_X l (zx_rm d 0 0) M K RJ Q 0 (lv_args 0 As) [] I) : zi_C l (zx_rm d 0 0) M As K RJ I Q := zx_C.of hy hn k
def zi_minv (x y : Int32) : Int32 := if y < x then y else x
def zi_maxv (x y : Int32) : Int32 := if x < y then y else x
def zi_absv (x : Int32) : Int32 := if 0 ≤ x then x else 0 - x
def zi_cpy (I : zi_I) (q p sp dp n : Nat) : zi_I := fun a i => if a = p then va_cpy (I q) (I p) sp dp n i else I a i
section ZI
variable {l : Launch} {rm : Room} {M : zx_M} {Z : zx_Zt} {pc : Nat} {L : List (Nat × Value)} {S : List Value} {K : zx_Kt} {RJ : zx_RJ} {I : zi_I} {Q : zi_Q} {fl : Bool} {kc ks : Nat}
theorem zi_getI {o ci j idx : Nat} {fin : Bool} (f : zx_fld M.1.cls idx ci j false fin) (kd : (K.2 o).1 = ci + 5) (hci : ci < 90) (d : decode M.2.1 pc = .ok (.getfield idx, 3)) (k : zx_X l rm M fl kc ks Z (pc + 3) L (.int (I o j) :: S) (K, I, RJ)) : zx_X l rm M fl kc ks Z pc L (.ref o :: S) (K, I, RJ) := zx_getI (h := (K, I, RJ)) f kd hci d k
theorem zi_getR {o ci j idx r : Nat} {fin : Bool} (f : zx_fld M.1.cls idx ci j true fin) (kd : (K.2 o).1 = ci + 5) (hci : ci < 90) (e : RJ.1 o j = r) (nz : r ≠ 0) (d : decode M.2.1 pc = .ok (.getfield idx, 3)) (k : zx_X l rm M fl kc ks Z (pc + 3) L (.ref r :: S) (K, I, RJ)) : zx_X l rm M fl kc ks Z pc L (.ref o :: S) (K, I, RJ) := by
  subst e
  exact zx_getR (h := (K, I, RJ)) f kd hci nz d k
theorem zi_putI {o ci j idx : Nat} {v : Int32} (f : zx_fld M.1.cls idx ci j false false) (kd : (K.2 o).1 = ci + 5) (hci : ci < 90) (d : decode M.2.1 pc = .ok (.putfield idx, 3)) (k : zx_X l rm M fl kc ks Z (pc + 3) L S (K, zx_u2 I o j v, RJ)) : zx_X l rm M fl kc ks Z pc L (.int v :: .ref o :: S) (K, I, RJ) := zx_putI (h := (K, I, RJ)) f kd hci d k
theorem zi_iald {q n : Nat} {x : Int32} (j : Nat) (kd : K.2 q = (0, n)) (hx : x = nI j) (hj : j < n) (d : decode M.2.1 pc = .ok (.iaload, 1)) (k : zx_X l rm M fl kc ks Z (pc + 1) L (.int (I q j) :: S) (K, I, RJ)) : zx_X l rm M fl kc ks Z pc L (.int x :: .ref q :: S) (K, I, RJ) := zx_iald (h := (K, I, RJ)) j kd hx hj d k
theorem zi_zald {q n : Nat} {x : Int32} (j : Nat) (kd : K.2 q = (1, n)) (hx : x = nI j) (hj : j < n) (d : decode M.2.1 pc = .ok (.baload, 1)) (k : zx_X l rm M fl kc ks Z (pc + 1) L (.int (I q j) :: S) (K, I, RJ)) : zx_X l rm M fl kc ks Z pc L (.int x :: .ref q :: S) (K, I, RJ) := zx_zald (h := (K, I, RJ)) j kd hx hj d k
theorem zi_iast {q n : Nat} {x v : Int32} (j : Nat) (kd : K.2 q = (0, n)) (hx : x = nI j) (hj : j < n) (d : decode M.2.1 pc = .ok (.iastore, 1)) (k : zx_X l rm M fl kc ks Z (pc + 1) L S (K, zx_u2 I q j v, RJ)) : zx_X l rm M fl kc ks Z pc L (.int v :: .int x :: .ref q :: S) (K, I, RJ) := zx_iast (h := (K, I, RJ)) j kd hx hj d k
theorem zi_zast {q n : Nat} {x v : Int32} (j : Nat) (kd : K.2 q = (1, n)) (hx : x = nI j) (hj : j < n) (hv : vp_nar .boolean v = v) (d : decode M.2.1 pc = .ok (.bastore, 1)) (k : zx_X l rm M fl kc ks Z (pc + 1) L S (K, zx_u2 I q j v, RJ)) : zx_X l rm M fl kc ks Z pc L (.int v :: .int x :: .ref q :: S) (K, I, RJ) := zx_zast (h := (K, I, RJ)) j kd hx hj hv d k
theorem zi_alen {q n : Nat} (kd : K.2 q = (0, n)) (d : decode M.2.1 pc = .ok (.arraylength, 1)) (k : zx_X l rm M fl kc ks Z (pc + 1) L (.int (nI n) :: S) (K, I, RJ)) : zx_X l rm M fl kc ks Z pc L (.ref q :: S) (K, I, RJ) := zx_alen (h := (K, I, RJ)) kd d k
theorem zi_aald3 {q n r : Nat} {x : Int32} (j : Nat) (kd : K.2 q = (3, n)) (hx : x = nI j) (hj : j < n) (e : RJ.1 q j = r) (nz : r ≠ 0) (d : decode M.2.1 pc = .ok (.aaload, 1)) (k : zx_X l rm M fl kc ks Z (pc + 1) L (.ref r :: S) (K, I, RJ)) : zx_X l rm M fl kc ks Z pc L (.int x :: .ref q :: S) (K, I, RJ) := by
  subst e
  exact zx_aald3 (h := (K, I, RJ)) j kd hx hj nz d k
theorem zi_aald4 {q n r : Nat} {x : Int32} (j : Nat) (kd : K.2 q = (4, n)) (hx : x = nI j) (hj : j < n) (e : RJ.1 q j = r) (nz : r ≠ 0) (d : decode M.2.1 pc = .ok (.aaload, 1)) (k : zx_X l rm M fl kc ks Z (pc + 1) L (.ref r :: S) (K, I, RJ)) : zx_X l rm M fl kc ks Z pc L (.int x :: .ref q :: S) (K, I, RJ) := by
  subst e
  exact zx_aald4 (h := (K, I, RJ)) j kd hx hj nz d k
theorem zi_iret {D cc sc : Nat} {v : Int32} (d : decode M.2.1 pc = .ok (.ireturn, 1)) (hr : M.2.2.2 = some .int) (hq : Q (some (.int v)) I) : zi_X l (zx_rm D cc sc) M K RJ Q pc L [.int v] I := zx_iret d hr ⟨I, rfl, hq⟩ (Nat.zero_le _) (Nat.zero_le _) (fun q => by cases q)
theorem zi_zret {D cc sc : Nat} {v : Int32} (d : decode M.2.1 pc = .ok (.ireturn, 1)) (hr : M.2.2.2 = some .boolean) (hn : narrow .boolean (.int v) = .int v) (hq : Q (some (.int v)) I) : zi_X l (zx_rm D cc sc) M K RJ Q pc L [.int v] I := zx_zret d hr hn ⟨I, rfl, hq⟩ (Nat.zero_le _) (Nat.zero_le _) (fun q => by cases q)
theorem zi_vret {D cc sc : Nat} (d : decode M.2.1 pc = .ok (.return_, 1)) (hr : M.2.2.2 = none) (hq : Q none I) : zi_X l (zx_rm D cc sc) M K RJ Q pc L [] I := zx_vret d hr ⟨I, rfl, hq⟩ (Nat.zero_le _) (Nat.zero_le _) (fun q => by cases q)
def zi_lkV (own : String) (idx : Nat) (M2 : zx_M) (n : Nat) (ci : Nat) : Prop := zx_lk own idx M2 n ∧ Cond.instanceMethod M2.1 ∈ zx_T ∧ Cond.selects M2.1.cls M2.1 M2.1 ∈ zx_T ∧ ∃ T N, zx_cl[ci]? = some (M2.1.cls, T, N)
def zi_lkS (own : String) (idx : Nat) (M2 : zx_M) (n : Nat) : Prop := zx_lk own idx M2 n ∧ Cond.static M2.1 ∈ zx_T
theorem zi_callV {dd cc sc : Nat} {M2 : zx_M} {b idx n ci : Nat} {As S2 : List Value} {Q2 : zi_Q} (hC : zi_C l (zx_rm dd 0 0) M2 (.ref b :: As) K RJ I Q2) (lk : zi_lkV M.1.cls idx M2 n ci) (kd : (K.2 b).1 = ci + 5) (hci : ci < 90) (hn : As.length = n) (hS : S = As.reverse ++ .ref b :: S2) (hW : (S2.map fun v => v.category).sum ≤ 8) (hm : M2.2.2.1 ≤ 21) (d : decode M.2.1 pc = .ok (.invokevirtual idx, 3))
    (k : ∀ r I2, Q2 r I2 → zx_X l (zx_rm (dd + 1) cc sc) M false 0 0 Z (pc + 3) L (r.toList ++ S2) (K, I2, RJ)) : zx_X l (zx_rm (dd + 1) cc sc) M false 0 0 Z pc L S (K, I, RJ) := by
  obtain ⟨l1, l2, l3, T, N, l4⟩ := lk
  refine zx_callV (h := (K, I, RJ)) hC l1 l2 l3 hn kd hci l4 hS hW ⟨Nat.le_refl _, ?_⟩ ⟨Nat.zero_le _, Nat.zero_le _⟩ d ?_
  · show 8 + (M2.2.2.1 + 11) + 40 * dd ≤ 40 * (dd + 1)
    omega
  · rintro r h2 ⟨I2, rfl, hq⟩
    exact k r I2 hq
theorem zi_callS {dd cc sc : Nat} {M2 : zx_M} {idx n : Nat} {As S2 : List Value} {Q2 : zi_Q} (hC : zi_C l (zx_rm dd 0 0) M2 As K RJ I Q2) (lk : zi_lkS M.1.cls idx M2 n) (hn : As.length = n) (hS : S = As.reverse ++ S2) (hW : (S2.map fun v => v.category).sum ≤ 8) (hm : M2.2.2.1 ≤ 21) (d : decode M.2.1 pc = .ok (.invokestatic idx, 3))
    (k : ∀ r I2, Q2 r I2 → zx_X l (zx_rm (dd + 1) cc sc) M false 0 0 Z (pc + 3) L (r.toList ++ S2) (K, I2, RJ)) : zx_X l (zx_rm (dd + 1) cc sc) M false 0 0 Z pc L S (K, I, RJ) := by
  obtain ⟨l1, l2⟩ := lk
  refine zx_callS (h := (K, I, RJ)) hC l1 l2 hn hS hW ⟨Nat.le_refl _, ?_⟩ ⟨Nat.zero_le _, Nat.zero_le _⟩ d ?_
  · show 8 + (M2.2.2.1 + 11) + 40 * dd ≤ 40 * (dd + 1)
    omega
  · rintro r h2 ⟨I2, rfl, hq⟩
    exact k r I2 hq
/-- Math.min, max, abs -/
def zi_wm (own : String) (idx : Nat) (y : MethodName) (b : ByteArray) (n : Nat) : Prop := Cond.methodLink own idx y ∈ zx_T ∧ Cond.static y ∈ zx_T ∧ Cond.initialized "java/lang/Math" ∈ zx_T ∧ Cond.code y b n (some .int) ∈ zx_T
theorem zi_min {dd cc sc idx : Nat} {x y : Int32} (w : zi_wm M.1.cls idx Lib.Math.min.name Lib.Math.min.code 2) (hW : (S.map fun v => v.category).sum ≤ 8) (d : decode M.2.1 pc = .ok (.invokestatic idx, 3)) (k : zx_X l (zx_rm (dd + 1) cc sc) M false 0 0 Z (pc + 3) L (.int (zi_minv x y) :: S) (K, I, RJ)) : zx_X l (zx_rm (dd + 1) cc sc) M false 0 0 Z pc L (.int y :: .int x :: S) (K, I, RJ) := by
  intro D G α A p e s m args below meth c H locs ls C R hl
  have hts := C.2.2.2.2.2.2.1
  exact va_mmin C.1 C.2.1 (C.2.2.1.trans hl.1.symm) C.2.2.2.2.2.1 (hts _ w.1) (hts _ w.2.1) (hts _ w.2.2.1) (hts _ w.2.2.2) (Nat.le_add_left _ _) (by rw [zx_catsum]; show _ ≤ 40 * (dd + 1); omega) (Nat.zero_le _) (Nat.zero_le _) d (k D G α A p e s m args below meth c H locs ls C R hl)
theorem zi_max {dd cc sc idx : Nat} {x y : Int32} (w : zi_wm M.1.cls idx Lib.Math.max.name Lib.Math.max.code 2) (hW : (S.map fun v => v.category).sum ≤ 8) (d : decode M.2.1 pc = .ok (.invokestatic idx, 3)) (k : zx_X l (zx_rm (dd + 1) cc sc) M false 0 0 Z (pc + 3) L (.int (zi_maxv x y) :: S) (K, I, RJ)) : zx_X l (zx_rm (dd + 1) cc sc) M false 0 0 Z pc L (.int y :: .int x :: S) (K, I, RJ) := by
  intro D G α A p e s m args below meth c H locs ls C R hl
  have hts := C.2.2.2.2.2.2.1
  exact va_mmax C.1 C.2.1 (C.2.2.1.trans hl.1.symm) C.2.2.2.2.2.1 (hts _ w.1) (hts _ w.2.1) (hts _ w.2.2.1) (hts _ w.2.2.2) (Nat.le_add_left _ _) (by rw [zx_catsum]; show _ ≤ 40 * (dd + 1); omega) (Nat.zero_le _) (Nat.zero_le _) d (k D G α A p e s m args below meth c H locs ls C R hl)
theorem zi_abs {dd cc sc idx : Nat} {x : Int32} (w : zi_wm M.1.cls idx Lib.Math.abs.name Lib.Math.abs.code 1) (hW : (S.map fun v => v.category).sum ≤ 8) (d : decode M.2.1 pc = .ok (.invokestatic idx, 3)) (k : zx_X l (zx_rm (dd + 1) cc sc) M false 0 0 Z (pc + 3) L (.int (zi_absv x) :: S) (K, I, RJ)) : zx_X l (zx_rm (dd + 1) cc sc) M false 0 0 Z pc L (.int x :: S) (K, I, RJ) := by
  intro D G α A p e s m args below meth c H locs ls C R hl
  have hts := C.2.2.2.2.2.2.1
  exact va_mabs C.1 C.2.1 (C.2.2.1.trans hl.1.symm) C.2.2.2.2.2.1 (hts _ w.1) (hts _ w.2.1) (hts _ w.2.2.1) (hts _ w.2.2.2) (Nat.le_add_left _ _) (by rw [zx_catsum]; show _ ≤ 40 * (dd + 1); omega) (Nat.zero_le _) (Nat.zero_le _) d (k D G α A p e s m args below meth c H locs ls C R hl)
/-- System.arraycopy of ints -/
def zi_wc (own : String) (idx : Nat) : Prop := Cond.methodLink own idx arraycopyName ∈ zx_T ∧ Cond.native arraycopyName ∈ zx_T ∧ Cond.static arraycopyName ∈ zx_T ∧ Cond.initialized "java/lang/System" ∈ zx_T
theorem zi_copy {dd cc sc idx q q2 n1 n2 : Nat} {x y z : Int32} (sp dp n : Nat) (w : zi_wc M.1.cls idx) (k1 : K.2 q = (0, n1)) (k2 : K.2 q2 = (0, n2)) (e1 : x = nI sp) (e2 : y = nI dp) (e3 : z = nI n) (b1 : sp + n ≤ n1) (b2 : dp + n ≤ n2) (hW : (S.map fun v => v.category).sum ≤ 8) (d : decode M.2.1 pc = .ok (.invokestatic idx, 3)) (k : zx_X l (zx_rm (dd + 1) cc sc) M false 0 0 Z (pc + 3) L S (K, zi_cpy I q q2 sp dp n, RJ)) : zx_X l (zx_rm (dd + 1) cc sc) M false 0 0 Z pc L (.int z :: .int y :: .ref q2 :: .int x :: .ref q :: S) (K, I, RJ) := by
  intro D G α A p e s m args below meth c H locs ls C R hl
  have hts := C.2.2.2.2.2.2.1
  obtain ⟨hK, hA, hP, hD, hS, hok, hfr⟩ := R
  obtain ⟨o1, o2, o3⟩ := hok q (by show (K.2 q).1 < 100; rw [k1]; omega)
  obtain ⟨p1, p2, p3⟩ := hok q2 (by show (K.2 q2).1 < 100; rw [k2]; omega)
  have o3 : n1 < 2 ^ 31 := by have : (K.2 q).2 < 2 ^ 31 := o3; rw [k1] at this; exact this
  have p3 : n2 < 2 ^ 31 := by have : (K.2 q2).2 < 2 ^ 31 := p3; rw [k2] at this; exact this
  have he : (zx_wl G α (K, I, RJ))[q - 1]? = some (α q, .inl (G.1, n1, .inl (I q))) := by rw [zx_wl_at o1 o2, zx_enc_int (n := n1) k1]
  have he2 : (zx_wl G α (K, I, RJ))[q2 - 1]? = some (α q2, .inl (G.1, n2, .inl (I q2))) := by rw [zx_wl_at p1 p2, zx_enc_int (n := n2) k2]
  subst e1; subst e2; subst e3
  have c1 : (nI sp).toNatClampNeg = sp := nI_clamp (by omega)
  have c2 : (nI dp).toNatClampNeg = dp := nI_clamp (by omega)
  have c3 : (nI n).toNatClampNeg = n := nI_clamp (by omega)
  have hnw : nativeFrameWords "java/lang/System" "arraycopy" 5 + 11 ≤ 32 := by decide +kernel
  have hlo : ((S.map (zx_cv α)).map fun v => v.category).sum + (nativeFrameWords "java/lang/System" "arraycopy" 5 + 11) ≤ (zx_rm (dd + 1) cc sc).locals := by
    rw [zx_catsum]
    show _ ≤ 40 * (dd + 1)
    omega
  refine va_copyi (sp := nI sp) (dp := nI dp) (n := nI n) C.1 C.2.1 (C.2.2.1.trans hl.1.symm) C.2.2.2.2.2.1 (hts _ w.1) (hts _ w.2.1) (hts _ w.2.2.1) (hts _ w.2.2.2) hK hP hD hS (q - 1) (q2 - 1) 0 0 he he2 (ty := .int) rfl rfl rfl (nI_pos (by omega)) (nI_pos (by omega)) (nI_pos (by omega)) (by rw [c1, c3]; exact b1) (by rw [c2, c3]; exact b2) (fun i hi => rfl) (Nat.le_add_left _ _) hlo d (fun H1 locs1 hP1 hD1 hS1 => ?_)
  have hset : (zx_wl G α (K, I, RJ)).set (q2 - 1) (α q2, .inl (G.1, n2, .inl (va_cpy (I q) (I q2) (nI sp).toNatClampNeg (nI dp).toNatClampNeg (nI n).toNatClampNeg))) = zx_wl G α (K, zi_cpy I q q2 sp dp n, RJ) := by
    rw [nI_clamp (by omega), nI_clamp (by omega), nI_clamp (by omega)]
    rw [show (.inl (G.1, n2, .inl (va_cpy (I q) (I q2) sp dp n)) : va_E) = zx_enc G α (K, zi_cpy I q q2 sp dp n, RJ) q2 from by
      rw [zx_enc_int (h := (K, zi_cpy I q q2 sp dp n, RJ)) (n := n2) k2]
      show _ = Sum.inl (G.1, n2, Sum.inl (zi_cpy I q q2 sp dp n q2))
      congr 4
      funext i
      simp [zi_cpy]]
    refine zx_wl_set (h := (K, I, RJ)) (h' := (K, zi_cpy I q q2 sp dp n, RJ)) rfl (fun a ha => ?_) (fun _ _ => rfl) (fun _ _ => rfl) p1 p2
    funext i
    simp [zi_cpy, ha]
  rw [hset] at hP1 hD1
  exact k D G α A p e s m args below meth c H1 locs1 ls C ⟨hK, hA, hP1, hD1, hS1, hok, hfr⟩ hl
end ZI
end
