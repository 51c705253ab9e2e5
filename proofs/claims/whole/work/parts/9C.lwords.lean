/-! Words of the law: its calls, its handlers. -/
set_option maxRecDepth 20000 in
theorem k_Law_7 : zi_lkV "SortedBlocksLaw" 7 M_Main_feed 2 0 := ⟨⟨(zx_i3 127 rfl rfl), (zx_i1 1 rfl rfl), ⟨by decide +kernel, by decide +kernel, by decide +kernel⟩, Or.inl (zx_i3 124 rfl rfl)⟩, (zx_i3 125 rfl rfl), (zx_i3 126 rfl rfl), _, _, rfl⟩
set_option maxRecDepth 20000 in
theorem kl_Law_7 : Cond.methodLink "SortedBlocksLaw" 7 M_Main_feed.1 ∈ zx_T := (zx_i3 124 rfl rfl)
set_option maxRecDepth 20000 in
theorem k_Law_17 : zi_lkV "SortedBlocksLaw" 17 M_Main_keep 1 0 := ⟨⟨(zx_i3 221 rfl rfl), (zx_i1 1 rfl rfl), ⟨by decide +kernel, by decide +kernel, by decide +kernel⟩, Or.inl (zx_i3 218 rfl rfl)⟩, (zx_i3 219 rfl rfl), (zx_i3 220 rfl rfl), _, _, rfl⟩
set_option maxRecDepth 20000 in
theorem kl_Law_17 : Cond.methodLink "SortedBlocksLaw" 17 M_Main_keep.1 ∈ zx_T := (zx_i3 218 rfl rfl)
set_option maxRecDepth 20000 in
theorem k_Law_21 : zi_lkV "SortedBlocksLaw" 21 M_Main_damage 1 0 := ⟨⟨(zx_i3 230 rfl rfl), (zx_i1 1 rfl rfl), ⟨by decide +kernel, by decide +kernel, by decide +kernel⟩, Or.inl (zx_i3 227 rfl rfl)⟩, (zx_i3 228 rfl rfl), (zx_i3 229 rfl rfl), _, _, rfl⟩
set_option maxRecDepth 20000 in
theorem kl_Law_21 : Cond.methodLink "SortedBlocksLaw" 21 M_Main_damage.1 ∈ zx_T := (zx_i3 227 rfl rfl)
set_option maxRecDepth 20000 in
theorem k_Law_26 : zi_lkV "SortedBlocksLaw" 26 M_Main_append 0 0 := ⟨⟨(zx_i4 17 rfl rfl), (zx_i1 1 rfl rfl), ⟨by decide +kernel, by decide +kernel, by decide +kernel⟩, Or.inl (zx_i4 14 rfl rfl)⟩, (zx_i4 15 rfl rfl), (zx_i4 16 rfl rfl), _, _, rfl⟩
set_option maxRecDepth 20000 in
theorem kl_Law_26 : Cond.methodLink "SortedBlocksLaw" 26 M_Main_append.1 ∈ zx_T := (zx_i4 14 rfl rfl)
set_option maxRecDepth 20000 in
theorem k_Law_30 : zi_lkV "SortedBlocksLaw" 30 M_Main_pack 1 0 := ⟨⟨(zx_i4 24 rfl rfl), (zx_i1 1 rfl rfl), ⟨by decide +kernel, by decide +kernel, by decide +kernel⟩, Or.inl (zx_i4 21 rfl rfl)⟩, (zx_i4 22 rfl rfl), (zx_i4 23 rfl rfl), _, _, rfl⟩
set_option maxRecDepth 20000 in
theorem kl_Law_30 : Cond.methodLink "SortedBlocksLaw" 30 M_Main_pack.1 ∈ zx_T := (zx_i4 21 rfl rfl)
set_option maxRecDepth 20000 in
theorem k_Law_34 : zi_lkV "SortedBlocksLaw" 34 M_Main_unpack 0 0 := ⟨⟨(zx_i4 185 rfl rfl), (zx_i1 1 rfl rfl), ⟨by decide +kernel, by decide +kernel, by decide +kernel⟩, Or.inl (zx_i4 182 rfl rfl)⟩, (zx_i4 183 rfl rfl), (zx_i4 184 rfl rfl), _, _, rfl⟩
set_option maxRecDepth 20000 in
theorem kl_Law_34 : Cond.methodLink "SortedBlocksLaw" 34 M_Main_unpack.1 ∈ zx_T := (zx_i4 182 rfl rfl)
set_option maxRecDepth 20000 in
theorem k_Law_39 : zi_lkV "SortedBlocksLaw" 39 M_Main_out 1 0 := ⟨⟨(zx_i4 232 rfl rfl), (zx_i1 1 rfl rfl), ⟨by decide +kernel, by decide +kernel, by decide +kernel⟩, Or.inl (zx_i4 229 rfl rfl)⟩, (zx_i4 230 rfl rfl), (zx_i4 231 rfl rfl), _, _, rfl⟩
set_option maxRecDepth 20000 in
theorem kl_Law_39 : Cond.methodLink "SortedBlocksLaw" 39 M_Main_out.1 ∈ zx_T := (zx_i4 229 rfl rfl)
set_option maxRecDepth 20000 in
abbrev h_Law_feed : List (Nat × Nat × Nat × Nat) := [(0, 11, 14, 13), (0, 11, 18, 15)]
set_option maxRecDepth 20000 in
theorem kc_Law_feed : Cond.codeWith M_Law_feed.1 M_Law_feed.2.1 M_Law_feed.2.2.1 M_Law_feed.2.2.2 h_Law_feed ∈ zx_T := (zx_i3 121 rfl rfl)
set_option maxRecDepth 20000 in
theorem kd_Law_feed : M_Law_feed.1.cls ≠ "java/lang/invoke/MethodHandle" ∧ M_Law_feed.1.cls ≠ "java/lang/invoke/VarHandle" ∧ (parseMethodDescriptor M_Law_feed.1.desc).map (fun d => d.parameters.length) = some 4 := ⟨by decide +kernel, by decide +kernel, by decide +kernel⟩
set_option maxRecDepth 20000 in
theorem kl_Law_48 : Cond.methodLink "SortedBlocksLaw" 48 M_Law_feed.1 ∈ zx_T := (zx_i3 119 rfl rfl)
set_option maxRecDepth 20000 in
theorem ks_Law_feed : Cond.static M_Law_feed.1 ∈ zx_T := (zx_i3 120 rfl rfl)
set_option maxRecDepth 20000 in
theorem k_Law_53 : zi_lkV "SortedBlocksLaw" 53 M_Mod_feed 2 1 := ⟨⟨(zx_i5 147 rfl rfl), (zx_i1 13 rfl rfl), ⟨by decide +kernel, by decide +kernel, by decide +kernel⟩, Or.inl (zx_i5 144 rfl rfl)⟩, (zx_i5 145 rfl rfl), (zx_i5 146 rfl rfl), _, _, rfl⟩
set_option maxRecDepth 20000 in
theorem kl_Law_53 : Cond.methodLink "SortedBlocksLaw" 53 M_Mod_feed.1 ∈ zx_T := (zx_i5 144 rfl rfl)
set_option maxRecDepth 20000 in
theorem k_Law_54 : zi_lkV "SortedBlocksLaw" 54 M_Mod_thrown 0 1 := ⟨⟨(zx_i5 143 rfl rfl), (zx_i1 13 rfl rfl), ⟨by decide +kernel, by decide +kernel, by decide +kernel⟩, Or.inl (zx_i5 140 rfl rfl)⟩, (zx_i5 141 rfl rfl), (zx_i5 142 rfl rfl), _, _, rfl⟩
set_option maxRecDepth 20000 in
theorem kl_Law_54 : Cond.methodLink "SortedBlocksLaw" 54 M_Mod_thrown.1 ∈ zx_T := (zx_i5 140 rfl rfl)
set_option maxRecDepth 20000 in
abbrev h_Law_keep : List (Nat × Nat × Nat × Nat) := [(0, 5, 8, 13)]
set_option maxRecDepth 20000 in
theorem kc_Law_keep : Cond.codeWith M_Law_keep.1 M_Law_keep.2.1 M_Law_keep.2.2.1 M_Law_keep.2.2.2 h_Law_keep ∈ zx_T := (zx_i3 217 rfl rfl)
set_option maxRecDepth 20000 in
theorem kd_Law_keep : M_Law_keep.1.cls ≠ "java/lang/invoke/MethodHandle" ∧ M_Law_keep.1.cls ≠ "java/lang/invoke/VarHandle" ∧ (parseMethodDescriptor M_Law_keep.1.desc).map (fun d => d.parameters.length) = some 2 := ⟨by decide +kernel, by decide +kernel, by decide +kernel⟩
set_option maxRecDepth 20000 in
theorem kl_Law_57 : Cond.methodLink "SortedBlocksLaw" 57 M_Law_keep.1 ∈ zx_T := (zx_i3 215 rfl rfl)
set_option maxRecDepth 20000 in
theorem ks_Law_keep : Cond.static M_Law_keep.1 ∈ zx_T := (zx_i3 216 rfl rfl)
set_option maxRecDepth 20000 in
theorem k_Law_60 : zi_lkV "SortedBlocksLaw" 60 M_Mod_keep 1 1 := ⟨⟨(zx_i5 152 rfl rfl), (zx_i1 13 rfl rfl), ⟨by decide +kernel, by decide +kernel, by decide +kernel⟩, Or.inl (zx_i5 149 rfl rfl)⟩, (zx_i5 150 rfl rfl), (zx_i5 151 rfl rfl), _, _, rfl⟩
set_option maxRecDepth 20000 in
theorem kl_Law_60 : Cond.methodLink "SortedBlocksLaw" 60 M_Mod_keep.1 ∈ zx_T := (zx_i5 149 rfl rfl)
set_option maxRecDepth 20000 in
abbrev h_Law_damage : List (Nat × Nat × Nat × Nat) := [(0, 5, 8, 24)]
set_option maxRecDepth 20000 in
theorem kc_Law_damage : Cond.codeWith M_Law_damage.1 M_Law_damage.2.1 M_Law_damage.2.2.1 M_Law_damage.2.2.2 h_Law_damage ∈ zx_T := (zx_i3 225 rfl rfl)
set_option maxRecDepth 20000 in
theorem kd_Law_damage : M_Law_damage.1.cls ≠ "java/lang/invoke/MethodHandle" ∧ M_Law_damage.1.cls ≠ "java/lang/invoke/VarHandle" ∧ (parseMethodDescriptor M_Law_damage.1.desc).map (fun d => d.parameters.length) = some 2 := ⟨by decide +kernel, by decide +kernel, by decide +kernel⟩
set_option maxRecDepth 20000 in
theorem kl_Law_61 : Cond.methodLink "SortedBlocksLaw" 61 M_Law_damage.1 ∈ zx_T := (zx_i3 223 rfl rfl)
set_option maxRecDepth 20000 in
theorem ks_Law_damage : Cond.static M_Law_damage.1 ∈ zx_T := (zx_i3 224 rfl rfl)
set_option maxRecDepth 20000 in
theorem k_Law_63 : zi_lkV "SortedBlocksLaw" 63 M_Mod_damage 1 1 := ⟨⟨(zx_i5 156 rfl rfl), (zx_i1 13 rfl rfl), ⟨by decide +kernel, by decide +kernel, by decide +kernel⟩, Or.inl (zx_i5 153 rfl rfl)⟩, (zx_i5 154 rfl rfl), (zx_i5 155 rfl rfl), _, _, rfl⟩
set_option maxRecDepth 20000 in
theorem kl_Law_63 : Cond.methodLink "SortedBlocksLaw" 63 M_Mod_damage.1 ∈ zx_T := (zx_i5 153 rfl rfl)
set_option maxRecDepth 20000 in
abbrev h_Law_append : List (Nat × Nat × Nat × Nat) := [(0, 8, 11, 15)]
set_option maxRecDepth 20000 in
theorem kc_Law_append : Cond.codeWith M_Law_append.1 M_Law_append.2.1 M_Law_append.2.2.1 M_Law_append.2.2.2 h_Law_append ∈ zx_T := (zx_i4 13 rfl rfl)
set_option maxRecDepth 20000 in
theorem kd_Law_append : M_Law_append.1.cls ≠ "java/lang/invoke/MethodHandle" ∧ M_Law_append.1.cls ≠ "java/lang/invoke/VarHandle" ∧ (parseMethodDescriptor M_Law_append.1.desc).map (fun d => d.parameters.length) = some 2 := ⟨by decide +kernel, by decide +kernel, by decide +kernel⟩
set_option maxRecDepth 20000 in
theorem kl_Law_64 : Cond.methodLink "SortedBlocksLaw" 64 M_Law_append.1 ∈ zx_T := (zx_i4 11 rfl rfl)
set_option maxRecDepth 20000 in
theorem ks_Law_append : Cond.static M_Law_append.1 ∈ zx_T := (zx_i4 12 rfl rfl)
set_option maxRecDepth 20000 in
theorem k_Law_67 : zi_lkV "SortedBlocksLaw" 67 M_Mod_append 0 1 := ⟨⟨(zx_i5 160 rfl rfl), (zx_i1 13 rfl rfl), ⟨by decide +kernel, by decide +kernel, by decide +kernel⟩, Or.inl (zx_i5 157 rfl rfl)⟩, (zx_i5 158 rfl rfl), (zx_i5 159 rfl rfl), _, _, rfl⟩
set_option maxRecDepth 20000 in
theorem kl_Law_67 : Cond.methodLink "SortedBlocksLaw" 67 M_Mod_append.1 ∈ zx_T := (zx_i5 157 rfl rfl)
set_option maxRecDepth 20000 in
abbrev h_Law_pack : List (Nat × Nat × Nat × Nat) := [(0, 9, 12, 13)]
set_option maxRecDepth 20000 in
theorem kc_Law_pack : Cond.codeWith M_Law_pack.1 M_Law_pack.2.1 M_Law_pack.2.2.1 M_Law_pack.2.2.2 h_Law_pack ∈ zx_T := (zx_i4 20 rfl rfl)
set_option maxRecDepth 20000 in
theorem kd_Law_pack : M_Law_pack.1.cls ≠ "java/lang/invoke/MethodHandle" ∧ M_Law_pack.1.cls ≠ "java/lang/invoke/VarHandle" ∧ (parseMethodDescriptor M_Law_pack.1.desc).map (fun d => d.parameters.length) = some 3 := ⟨by decide +kernel, by decide +kernel, by decide +kernel⟩
set_option maxRecDepth 20000 in
theorem kl_Law_68 : Cond.methodLink "SortedBlocksLaw" 68 M_Law_pack.1 ∈ zx_T := (zx_i4 18 rfl rfl)
set_option maxRecDepth 20000 in
theorem ks_Law_pack : Cond.static M_Law_pack.1 ∈ zx_T := (zx_i4 19 rfl rfl)
set_option maxRecDepth 20000 in
theorem k_Law_71 : zi_lkV "SortedBlocksLaw" 71 M_Mod_pack 1 1 := ⟨⟨(zx_i5 164 rfl rfl), (zx_i1 13 rfl rfl), ⟨by decide +kernel, by decide +kernel, by decide +kernel⟩, Or.inl (zx_i5 161 rfl rfl)⟩, (zx_i5 162 rfl rfl), (zx_i5 163 rfl rfl), _, _, rfl⟩
set_option maxRecDepth 20000 in
theorem kl_Law_71 : Cond.methodLink "SortedBlocksLaw" 71 M_Mod_pack.1 ∈ zx_T := (zx_i5 161 rfl rfl)
set_option maxRecDepth 20000 in
abbrev h_Law_unpack : List (Nat × Nat × Nat × Nat) := [(0, 8, 11, 37)]
set_option maxRecDepth 20000 in
theorem kc_Law_unpack : Cond.codeWith M_Law_unpack.1 M_Law_unpack.2.1 M_Law_unpack.2.2.1 M_Law_unpack.2.2.2 h_Law_unpack ∈ zx_T := (zx_i4 180 rfl rfl)
set_option maxRecDepth 20000 in
theorem kd_Law_unpack : M_Law_unpack.1.cls ≠ "java/lang/invoke/MethodHandle" ∧ M_Law_unpack.1.cls ≠ "java/lang/invoke/VarHandle" ∧ (parseMethodDescriptor M_Law_unpack.1.desc).map (fun d => d.parameters.length) = some 2 := ⟨by decide +kernel, by decide +kernel, by decide +kernel⟩
set_option maxRecDepth 20000 in
theorem kl_Law_72 : Cond.methodLink "SortedBlocksLaw" 72 M_Law_unpack.1 ∈ zx_T := (zx_i4 178 rfl rfl)
set_option maxRecDepth 20000 in
theorem ks_Law_unpack : Cond.static M_Law_unpack.1 ∈ zx_T := (zx_i4 179 rfl rfl)
set_option maxRecDepth 20000 in
theorem k_Law_74 : zi_lkV "SortedBlocksLaw" 74 M_Mod_unpack 0 1 := ⟨⟨(zx_i6 38 rfl rfl), (zx_i1 13 rfl rfl), ⟨by decide +kernel, by decide +kernel, by decide +kernel⟩, Or.inl (zx_i6 35 rfl rfl)⟩, (zx_i6 36 rfl rfl), (zx_i6 37 rfl rfl), _, _, rfl⟩
set_option maxRecDepth 20000 in
theorem kl_Law_74 : Cond.methodLink "SortedBlocksLaw" 74 M_Mod_unpack.1 ∈ zx_T := (zx_i6 35 rfl rfl)
set_option maxRecDepth 20000 in
theorem k_Law_75 : zi_lkV "SortedBlocksLaw" 75 M_Main_at 0 0 := ⟨⟨(zx_i2 128 rfl rfl), (zx_i1 1 rfl rfl), ⟨by decide +kernel, by decide +kernel, by decide +kernel⟩, Or.inl (zx_i2 125 rfl rfl)⟩, (zx_i2 126 rfl rfl), (zx_i2 127 rfl rfl), _, _, rfl⟩
set_option maxRecDepth 20000 in
theorem kl_Law_75 : Cond.methodLink "SortedBlocksLaw" 75 M_Main_at.1 ∈ zx_T := (zx_i2 125 rfl rfl)
set_option maxRecDepth 20000 in
theorem k_Law_78 : zi_lkV "SortedBlocksLaw" 78 M_Mod_at 0 1 := ⟨⟨(zx_i6 106 rfl rfl), (zx_i1 13 rfl rfl), ⟨by decide +kernel, by decide +kernel, by decide +kernel⟩, Or.inl (zx_i6 103 rfl rfl)⟩, (zx_i6 104 rfl rfl), (zx_i6 105 rfl rfl), _, _, rfl⟩
set_option maxRecDepth 20000 in
theorem kl_Law_78 : Cond.methodLink "SortedBlocksLaw" 78 M_Mod_at.1 ∈ zx_T := (zx_i6 103 rfl rfl)
set_option maxRecDepth 20000 in
theorem k_Law_79 : zi_lkV "SortedBlocksLaw" 79 M_Main_rescue 0 0 := ⟨⟨(zx_i2 132 rfl rfl), (zx_i1 1 rfl rfl), ⟨by decide +kernel, by decide +kernel, by decide +kernel⟩, Or.inl (zx_i2 129 rfl rfl)⟩, (zx_i2 130 rfl rfl), (zx_i2 131 rfl rfl), _, _, rfl⟩
set_option maxRecDepth 20000 in
theorem kl_Law_79 : Cond.methodLink "SortedBlocksLaw" 79 M_Main_rescue.1 ∈ zx_T := (zx_i2 129 rfl rfl)
set_option maxRecDepth 20000 in
theorem k_Law_82 : zi_lkV "SortedBlocksLaw" 82 M_Mod_rescue 0 1 := ⟨⟨(zx_i6 110 rfl rfl), (zx_i1 13 rfl rfl), ⟨by decide +kernel, by decide +kernel, by decide +kernel⟩, Or.inl (zx_i6 107 rfl rfl)⟩, (zx_i6 108 rfl rfl), (zx_i6 109 rfl rfl), _, _, rfl⟩
set_option maxRecDepth 20000 in
theorem kl_Law_82 : Cond.methodLink "SortedBlocksLaw" 82 M_Mod_rescue.1 ∈ zx_T := (zx_i6 107 rfl rfl)
set_option maxRecDepth 20000 in
theorem k_Law_83 : zi_lkV "SortedBlocksLaw" 83 M_Main_given 0 0 := ⟨⟨(zx_i3 89 rfl rfl), (zx_i1 1 rfl rfl), ⟨by decide +kernel, by decide +kernel, by decide +kernel⟩, Or.inl (zx_i3 86 rfl rfl)⟩, (zx_i3 87 rfl rfl), (zx_i3 88 rfl rfl), _, _, rfl⟩
set_option maxRecDepth 20000 in
theorem kl_Law_83 : Cond.methodLink "SortedBlocksLaw" 83 M_Main_given.1 ∈ zx_T := (zx_i3 86 rfl rfl)
set_option maxRecDepth 20000 in
theorem k_Law_86 : zi_lkV "SortedBlocksLaw" 86 M_Mod_given 0 1 := ⟨⟨(zx_i6 114 rfl rfl), (zx_i1 13 rfl rfl), ⟨by decide +kernel, by decide +kernel, by decide +kernel⟩, Or.inl (zx_i6 111 rfl rfl)⟩, (zx_i6 112 rfl rfl), (zx_i6 113 rfl rfl), _, _, rfl⟩
set_option maxRecDepth 20000 in
theorem kl_Law_86 : Cond.methodLink "SortedBlocksLaw" 86 M_Mod_given.1 ∈ zx_T := (zx_i6 111 rfl rfl)
set_option maxRecDepth 20000 in
theorem k_Law_87 : zi_lkV "SortedBlocksLaw" 87 M_Main_size 0 0 := ⟨⟨(zx_i3 93 rfl rfl), (zx_i1 1 rfl rfl), ⟨by decide +kernel, by decide +kernel, by decide +kernel⟩, Or.inl (zx_i3 90 rfl rfl)⟩, (zx_i3 91 rfl rfl), (zx_i3 92 rfl rfl), _, _, rfl⟩
set_option maxRecDepth 20000 in
theorem kl_Law_87 : Cond.methodLink "SortedBlocksLaw" 87 M_Main_size.1 ∈ zx_T := (zx_i3 90 rfl rfl)
set_option maxRecDepth 20000 in
theorem k_Law_90 : zi_lkV "SortedBlocksLaw" 90 M_Mod_size 0 1 := ⟨⟨(zx_i6 118 rfl rfl), (zx_i1 13 rfl rfl), ⟨by decide +kernel, by decide +kernel, by decide +kernel⟩, Or.inl (zx_i6 115 rfl rfl)⟩, (zx_i6 116 rfl rfl), (zx_i6 117 rfl rfl), _, _, rfl⟩
set_option maxRecDepth 20000 in
theorem kl_Law_90 : Cond.methodLink "SortedBlocksLaw" 90 M_Mod_size.1 ∈ zx_T := (zx_i6 115 rfl rfl)
set_option maxRecDepth 20000 in
abbrev h_Law_out : List (Nat × Nat × Nat × Nat) := [(0, 9, 12, 24)]
set_option maxRecDepth 20000 in
theorem kc_Law_out : Cond.codeWith M_Law_out.1 M_Law_out.2.1 M_Law_out.2.2.1 M_Law_out.2.2.2 h_Law_out ∈ zx_T := (zx_i4 228 rfl rfl)
set_option maxRecDepth 20000 in
theorem kd_Law_out : M_Law_out.1.cls ≠ "java/lang/invoke/MethodHandle" ∧ M_Law_out.1.cls ≠ "java/lang/invoke/VarHandle" ∧ (parseMethodDescriptor M_Law_out.1.desc).map (fun d => d.parameters.length) = some 3 := ⟨by decide +kernel, by decide +kernel, by decide +kernel⟩
set_option maxRecDepth 20000 in
theorem kl_Law_91 : Cond.methodLink "SortedBlocksLaw" 91 M_Law_out.1 ∈ zx_T := (zx_i4 226 rfl rfl)
set_option maxRecDepth 20000 in
theorem ks_Law_out : Cond.static M_Law_out.1 ∈ zx_T := (zx_i4 227 rfl rfl)
set_option maxRecDepth 20000 in
theorem k_Law_93 : zi_lkV "SortedBlocksLaw" 93 M_Mod_out 1 1 := ⟨⟨(zx_i6 122 rfl rfl), (zx_i1 13 rfl rfl), ⟨by decide +kernel, by decide +kernel, by decide +kernel⟩, Or.inl (zx_i6 119 rfl rfl)⟩, (zx_i6 120 rfl rfl), (zx_i6 121 rfl rfl), _, _, rfl⟩
set_option maxRecDepth 20000 in
theorem kl_Law_93 : Cond.methodLink "SortedBlocksLaw" 93 M_Mod_out.1 ∈ zx_T := (zx_i6 119 rfl rfl)
set_option maxRecDepth 20000 in
theorem k_Law_94 : zi_lkV "SortedBlocksLaw" 94 M_Main_blocks 0 0 := ⟨⟨(zx_i3 97 rfl rfl), (zx_i1 1 rfl rfl), ⟨by decide +kernel, by decide +kernel, by decide +kernel⟩, Or.inl (zx_i3 94 rfl rfl)⟩, (zx_i3 95 rfl rfl), (zx_i3 96 rfl rfl), _, _, rfl⟩
set_option maxRecDepth 20000 in
theorem kl_Law_94 : Cond.methodLink "SortedBlocksLaw" 94 M_Main_blocks.1 ∈ zx_T := (zx_i3 94 rfl rfl)
set_option maxRecDepth 20000 in
theorem k_Law_97 : zi_lkV "SortedBlocksLaw" 97 M_Mod_blocks 0 1 := ⟨⟨(zx_i6 126 rfl rfl), (zx_i1 13 rfl rfl), ⟨by decide +kernel, by decide +kernel, by decide +kernel⟩, Or.inl (zx_i6 123 rfl rfl)⟩, (zx_i6 124 rfl rfl), (zx_i6 125 rfl rfl), _, _, rfl⟩
set_option maxRecDepth 20000 in
theorem kl_Law_97 : Cond.methodLink "SortedBlocksLaw" 97 M_Mod_blocks.1 ∈ zx_T := (zx_i6 123 rfl rfl)
set_option maxRecDepth 20000 in
theorem k_Law_98 : zi_lkV "SortedBlocksLaw" 98 M_Main_block 1 0 := ⟨⟨(zx_i3 101 rfl rfl), (zx_i1 1 rfl rfl), ⟨by decide +kernel, by decide +kernel, by decide +kernel⟩, Or.inl (zx_i3 98 rfl rfl)⟩, (zx_i3 99 rfl rfl), (zx_i3 100 rfl rfl), _, _, rfl⟩
set_option maxRecDepth 20000 in
theorem kl_Law_98 : Cond.methodLink "SortedBlocksLaw" 98 M_Main_block.1 ∈ zx_T := (zx_i3 98 rfl rfl)
set_option maxRecDepth 20000 in
theorem k_Law_101 : zi_lkV "SortedBlocksLaw" 101 M_Mod_block 1 1 := ⟨⟨(zx_i6 130 rfl rfl), (zx_i1 13 rfl rfl), ⟨by decide +kernel, by decide +kernel, by decide +kernel⟩, Or.inl (zx_i6 127 rfl rfl)⟩, (zx_i6 128 rfl rfl), (zx_i6 129 rfl rfl), _, _, rfl⟩
set_option maxRecDepth 20000 in
theorem kl_Law_101 : Cond.methodLink "SortedBlocksLaw" 101 M_Mod_block.1 ∈ zx_T := (zx_i6 127 rfl rfl)
set_option maxRecDepth 20000 in
theorem k_Law_102 : zi_lkV "SortedBlocksLaw" 102 M_Main_last 1 0 := ⟨⟨(zx_i3 105 rfl rfl), (zx_i1 1 rfl rfl), ⟨by decide +kernel, by decide +kernel, by decide +kernel⟩, Or.inl (zx_i3 102 rfl rfl)⟩, (zx_i3 103 rfl rfl), (zx_i3 104 rfl rfl), _, _, rfl⟩
set_option maxRecDepth 20000 in
theorem kl_Law_102 : Cond.methodLink "SortedBlocksLaw" 102 M_Main_last.1 ∈ zx_T := (zx_i3 102 rfl rfl)
set_option maxRecDepth 20000 in
theorem k_Law_105 : zi_lkV "SortedBlocksLaw" 105 M_Mod_last 1 1 := ⟨⟨(zx_i6 134 rfl rfl), (zx_i1 13 rfl rfl), ⟨by decide +kernel, by decide +kernel, by decide +kernel⟩, Or.inl (zx_i6 131 rfl rfl)⟩, (zx_i6 132 rfl rfl), (zx_i6 133 rfl rfl), _, _, rfl⟩
set_option maxRecDepth 20000 in
theorem kl_Law_105 : Cond.methodLink "SortedBlocksLaw" 105 M_Mod_last.1 ∈ zx_T := (zx_i6 131 rfl rfl)
set_option maxRecDepth 20000 in
theorem k_Law_106 : zi_lkV "SortedBlocksLaw" 106 M_Main_symbol 1 0 := ⟨⟨(zx_i3 109 rfl rfl), (zx_i1 1 rfl rfl), ⟨by decide +kernel, by decide +kernel, by decide +kernel⟩, Or.inl (zx_i3 106 rfl rfl)⟩, (zx_i3 107 rfl rfl), (zx_i3 108 rfl rfl), _, _, rfl⟩
set_option maxRecDepth 20000 in
theorem kl_Law_106 : Cond.methodLink "SortedBlocksLaw" 106 M_Main_symbol.1 ∈ zx_T := (zx_i3 106 rfl rfl)
set_option maxRecDepth 20000 in
theorem k_Law_109 : zi_lkV "SortedBlocksLaw" 109 M_Mod_symbol 1 1 := ⟨⟨(zx_i6 138 rfl rfl), (zx_i1 13 rfl rfl), ⟨by decide +kernel, by decide +kernel, by decide +kernel⟩, Or.inl (zx_i6 135 rfl rfl)⟩, (zx_i6 136 rfl rfl), (zx_i6 137 rfl rfl), _, _, rfl⟩
set_option maxRecDepth 20000 in
theorem kl_Law_109 : Cond.methodLink "SortedBlocksLaw" 109 M_Mod_symbol.1 ∈ zx_T := (zx_i6 135 rfl rfl)
set_option maxRecDepth 20000 in
theorem k_Law_110 : zi_lkV "SortedBlocksLaw" 110 M_Main_length 2 0 := ⟨⟨(zx_i3 113 rfl rfl), (zx_i1 1 rfl rfl), ⟨by decide +kernel, by decide +kernel, by decide +kernel⟩, Or.inl (zx_i3 110 rfl rfl)⟩, (zx_i3 111 rfl rfl), (zx_i3 112 rfl rfl), _, _, rfl⟩
set_option maxRecDepth 20000 in
theorem kl_Law_110 : Cond.methodLink "SortedBlocksLaw" 110 M_Main_length.1 ∈ zx_T := (zx_i3 110 rfl rfl)
set_option maxRecDepth 20000 in
theorem k_Law_114 : zi_lkV "SortedBlocksLaw" 114 M_Mod_length 2 1 := ⟨⟨(zx_i6 142 rfl rfl), (zx_i1 13 rfl rfl), ⟨by decide +kernel, by decide +kernel, by decide +kernel⟩, Or.inl (zx_i6 139 rfl rfl)⟩, (zx_i6 140 rfl rfl), (zx_i6 141 rfl rfl), _, _, rfl⟩
set_option maxRecDepth 20000 in
theorem kl_Law_114 : Cond.methodLink "SortedBlocksLaw" 114 M_Mod_length.1 ∈ zx_T := (zx_i6 139 rfl rfl)
set_option maxRecDepth 20000 in
theorem k_Law_115 : zi_lkV "SortedBlocksLaw" 115 M_Main_table 1 0 := ⟨⟨(zx_i3 118 rfl rfl), (zx_i1 1 rfl rfl), ⟨by decide +kernel, by decide +kernel, by decide +kernel⟩, Or.inl (zx_i3 115 rfl rfl)⟩, (zx_i3 116 rfl rfl), (zx_i3 117 rfl rfl), _, _, rfl⟩
set_option maxRecDepth 20000 in
theorem kl_Law_115 : Cond.methodLink "SortedBlocksLaw" 115 M_Main_table.1 ∈ zx_T := (zx_i3 115 rfl rfl)
set_option maxRecDepth 20000 in
theorem k_Law_118 : zi_lkV "SortedBlocksLaw" 118 M_Mod_table 1 1 := ⟨⟨(zx_i6 146 rfl rfl), (zx_i1 13 rfl rfl), ⟨by decide +kernel, by decide +kernel, by decide +kernel⟩, Or.inl (zx_i6 143 rfl rfl)⟩, (zx_i6 144 rfl rfl), (zx_i6 145 rfl rfl), _, _, rfl⟩
set_option maxRecDepth 20000 in
theorem kl_Law_118 : Cond.methodLink "SortedBlocksLaw" 118 M_Mod_table.1 ∈ zx_T := (zx_i6 143 rfl rfl)
set_option maxRecDepth 20000 in
theorem ki_Law : Cond.initialized "SortedBlocksLaw" ∈ zx_T := (zx_i1 0 rfl rfl)
set_option maxRecDepth 20000 in
theorem kx_Law_13 : Cond.classLink "SortedBlocksLaw" 13 "java/lang/IllegalArgumentException" ∈ zx_T := (zx_i3 122 rfl rfl)
set_option maxRecDepth 20000 in
theorem kx_Law_15 : Cond.classLink "SortedBlocksLaw" 15 "java/lang/UnsupportedOperationException" ∈ zx_T := (zx_i3 123 rfl rfl)
set_option maxRecDepth 20000 in
theorem kx_Law_24 : Cond.classLink "SortedBlocksLaw" 24 "java/lang/IndexOutOfBoundsException" ∈ zx_T := (zx_i3 226 rfl rfl)
set_option maxRecDepth 20000 in
theorem kx_Law_37 : Cond.classLink "SortedBlocksLaw" 37 "java/lang/IllegalStateException" ∈ zx_T := (zx_i4 181 rfl rfl)
set_option maxRecDepth 20000 in
theorem ky_IllegalArgumentException : Cond.castable "java/lang/IllegalArgumentException" "java/lang/IllegalArgumentException" ∈ zx_N := (zx_n3 130 rfl rfl)
set_option maxRecDepth 20000 in
theorem ky_UnsupportedOperationException : Cond.castable "java/lang/UnsupportedOperationException" "java/lang/UnsupportedOperationException" ∈ zx_N := (zx_n3 200 rfl rfl)
set_option maxRecDepth 20000 in
theorem ky_IndexOutOfBoundsException : Cond.castable "java/lang/IndexOutOfBoundsException" "java/lang/IndexOutOfBoundsException" ∈ zx_N := (zx_n3 233 rfl rfl)
set_option maxRecDepth 20000 in
theorem ky_IllegalStateException : Cond.castable "java/lang/IllegalStateException" "java/lang/IllegalStateException" ∈ zx_N := (zx_n4 212 rfl rfl)
