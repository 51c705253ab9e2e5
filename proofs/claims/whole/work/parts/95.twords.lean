/-! The words of the throws. -/
theorem th_1 (text : String) (i2 : Nat) (h : Cond.stringRef "SortedBlocks" i2 text ∈ th_sw) : th_wd "SortedBlocks" "java/lang/IllegalArgumentException" text 76 i2 80 := ⟨by decide +kernel, by decide +kernel, by decide +kernel, h, by decide +kernel⟩
theorem th_2 (text : String) (i2 : Nat) (h : Cond.stringRef "SortedBlocks" i2 text ∈ th_sw) : th_wd "SortedBlocks" "java/lang/UnsupportedOperationException" text 87 i2 91 := ⟨by decide +kernel, by decide +kernel, by decide +kernel, h, by decide +kernel⟩
theorem th_3 (text : String) (i2 : Nat) (h : Cond.stringRef "SortedBlocks" i2 text ∈ th_sw) : th_wd "SortedBlocks" "java/lang/IndexOutOfBoundsException" text 103 i2 107 := ⟨by decide +kernel, by decide +kernel, by decide +kernel, h, by decide +kernel⟩
theorem th_4 (text : String) (i2 : Nat) (h : Cond.stringRef "SortedBlocks" i2 text ∈ th_sw) : th_wd "SortedBlocks" "java/lang/IllegalStateException" text 148 i2 152 := ⟨by decide +kernel, by decide +kernel, by decide +kernel, h, by decide +kernel⟩
theorem th_t1 : Cond.stringRef "SortedBlocks" 78 "n is not 1 .. 8" ∈ th_sw := by simp [th_sw]
theorem th_t2 : Cond.stringRef "SortedBlocks" 89 "IN would have more than 400 bytes" ∈ th_sw := by simp [th_sw]
theorem th_t3 : Cond.stringRef "SortedBlocks" 98 "IN has not so many bytes" ∈ th_sw := by simp [th_sw]
theorem th_t4 : Cond.stringRef "SortedBlocks" 105 "IN has no such bit" ∈ th_sw := by simp [th_sw]
theorem th_t5 : Cond.stringRef "SortedBlocks" 114 "level is not 1 .. 8" ∈ th_sw := by simp [th_sw]
theorem th_t6 : Cond.stringRef "SortedBlocks" 150 "OUT would have more than 2000 bytes" ∈ th_sw := by simp [th_sw]
theorem th_t7 : Cond.stringRef "SortedBlocks" 172 "OUT has no such byte" ∈ th_sw := by simp [th_sw]
