/-! The law's start: what the constructors made. -/
def h_law : zx_H := pu 124 (mk_Mod 103 103 (pu 103 h1_Main (6, 0))) (2, 1)
def B_none : bk_B := (0, 0, [], [], [], [], 0, 0, (fun _ => 0), (fun _ _ => 0))
def s_law : ab_S := ([], [], -1, 0, B_none)
theorem hl_row2 : g_Row h_law.1 h_law.2.2 2 400 := by
  unfold g_Row
  decide +kernel
theorem hl_row4 : g_Row h_law.1 h_law.2.2 4 4600 := by
  unfold g_Row
  decide +kernel
theorem hl_row6 : g_Row h_law.1 h_law.2.2 6 2000 := by
  unfold g_Row
  decide +kernel
theorem hl_ml10 : g_ML h_law.1 h_law.2.2 10 := by
  unfold g_ML
  decide +kernel
theorem hl_ml42 : g_ML h_law.1 h_law.2.2 42 := by
  unfold g_ML
  decide +kernel
theorem hl_ml53 : g_ML h_law.1 h_law.2.2 53 := by
  unfold g_ML
  decide +kernel
theorem hl_co15 : g_Codes h_law.1 h_law.2.2 15 258 := by
  unfold g_Codes
  decide +kernel
theorem hl_co21 : g_Codes h_law.1 h_law.2.2 21 258 := by
  unfold g_Codes
  decide +kernel
theorem hl_co27 : g_Codes h_law.1 h_law.2.2 27 258 := by
  unfold g_Codes
  decide +kernel
theorem hl_co33 : g_Codes h_law.1 h_law.2.2 33 258 := by
  unfold g_Codes
  decide +kernel
theorem hl_cos15 : ∀ t, t < 4 → g_Codes h_law.1 h_law.2.2 (15 + 6 * t) 258 := by
  intro t ht
  have : t = 0 ∨ t = 1 ∨ t = 2 ∨ t = 3 := by omega
  rcases this with rfl | rfl | rfl | rfl
  · exact hl_co15
  · exact hl_co21
  · exact hl_co27
  · exact hl_co33
theorem hl_co57 : g_Codes h_law.1 h_law.2.2 57 66 := by
  unfold g_Codes
  decide +kernel
theorem hl_co63 : g_Codes h_law.1 h_law.2.2 63 66 := by
  unfold g_Codes
  decide +kernel
theorem hl_co69 : g_Codes h_law.1 h_law.2.2 69 66 := by
  unfold g_Codes
  decide +kernel
theorem hl_co75 : g_Codes h_law.1 h_law.2.2 75 66 := by
  unfold g_Codes
  decide +kernel
theorem hl_cos57 : ∀ t, t < 4 → g_Codes h_law.1 h_law.2.2 (57 + 6 * t) 66 := by
  intro t ht
  have : t = 0 ∨ t = 1 ∨ t = 2 ∨ t = 3 := by omega
  rcases this with rfl | rfl | rfl | rfl
  · exact hl_co57
  · exact hl_co63
  · exact hl_co69
  · exact hl_co75
theorem hl_trees : g_Trees h_law.1 h_law.2.2 45 := by
  unfold g_Trees
  decide +kernel
theorem hl_picker : g_Picker h_law.1 h_law.2.2 44 := ⟨by decide +kernel, by decide +kernel, hl_trees, by decide +kernel, by decide +kernel⟩
theorem hl_maker : g_Maker h_law.1 h_law.2.2 39 := ⟨by decide +kernel, by decide +kernel, by decide +kernel, by decide +kernel, by decide +kernel, by decide +kernel, hl_ml42, by decide +kernel, hl_picker⟩
theorem hl_bits : g_Bits h_law.1 h_law.2.2 8 2 400 := ⟨by decide +kernel, by decide +kernel, by decide, hl_row2, by decide⟩
theorem hl_rr : ∀ t, t < 4 → h_law.2.2.1 12 t = 15 + 6 * t := by decide +kernel
theorem hl_wr : ∀ t, t < 4 → h_law.2.2.1 55 t = 57 + 6 * t := by decide +kernel
theorem hl_br : g_BR h_law.1 h_law.2.2 9 8 2 400 := ⟨by decide +kernel, by decide +kernel, by decide, hl_bits, by decide +kernel, hl_ml10, by decide +kernel, by decide +kernel, fun t ht => ⟨hl_rr t ht, hl_cos15 t ht⟩, by decide +kernel, by decide +kernel, by decide +kernel, by decide +kernel⟩
theorem hl_w : g_W h_law.1 h_law.2.2 56 4 4600 := ⟨by decide +kernel, by decide +kernel, by decide, hl_row4⟩
theorem hl_bw : g_BW h_law.1 h_law.2.2 51 4 4600 := ⟨by decide +kernel, by decide +kernel, hl_w, by decide +kernel, by decide +kernel, by decide +kernel, hl_ml53, by decide +kernel, by decide +kernel, fun t ht => ⟨hl_wr t ht, hl_cos57 t ht⟩⟩
theorem hl_b81 : g_Block h_law.1 h_law.2.2 81 := by
  unfold g_Block
  decide +kernel
theorem hl_b92 : g_Block h_law.1 h_law.2.2 92 := by
  unfold g_Block
  decide +kernel
theorem h_law_main : g_Main h_law.1 h_law.2.2 1 81 92 := ⟨by decide +kernel, by decide +kernel, by decide +kernel, by decide +kernel, by decide +kernel, by decide +kernel, by decide +kernel, by decide +kernel, by decide +kernel, by decide +kernel, hl_row2, hl_row4, hl_row6, hl_br, hl_maker, hl_bw, hl_b81, hl_b92, Or.inl ⟨rfl, rfl⟩⟩
set_option maxRecDepth 20000 in
theorem h_law_mod : g_Mod h_law.1 h_law.2.2 103 := by
  unfold g_Mod
  decide +kernel
theorem a_row0 {I : zi_I} {o n : Nat} (h : I o 1 = 0) : a_Row I o n [] := ⟨Nat.zero_le _, h, fun i hi => absurd hi (Nat.not_lt_zero _), fun b hb => absurd hb List.not_mem_nil⟩
set_option maxRecDepth 20000 in
theorem h_law_a : a_C h_law.2.1 1 81 s_law := by
  refine ⟨a_row0 (by decide +kernel), a_row0 (by decide +kernel), ⟨[], a_row0 (by decide +kernel)⟩, by decide +kernel, by decide +kernel, by decide +kernel, by decide +kernel, Nat.zero_le _, fun h => absurd h (Nat.not_lt_zero _)⟩
set_option maxRecDepth 20000 in
theorem h_law_m : a_M h_law.2.1 103 s_law := by
  refine ⟨⟨Nat.zero_le _, by decide +kernel, fun i hi => absurd hi (Nat.not_lt_zero _), fun b hb => absurd hb List.not_mem_nil⟩, ⟨by decide +kernel, fun i hi => absurd hi (Nat.not_lt_zero _)⟩, Nat.zero_le _, by decide +kernel, by decide +kernel, Nat.zero_le _, fun h => absurd h (Nat.not_lt_zero _)⟩
theorem h_law_I : lw_I h_law.1 h_law.2.1 h_law.2.2 s_law := ⟨⟨81, 92, h_law_main, h_law_a⟩, h_law_mod, h_law_m, by decide +kernel⟩
theorem zx_down {l : Launch} {rm : Room} {M : zx_M} {kc ks : Nat} {Z : zx_Zt} {pc : Nat} {L : List (Nat × Value)} {S : List Value} {h : zx_H} (k : zx_X l rm M false kc ks Z pc L S h) : zx_X l rm M true kc ks (zx_Za Z) pc L S h := by
  intro D G α A p e s m args below meth c H locs ls C R hl T hT X
  obtain ⟨h1, h2, h3, h4, h5, h6, -⟩ := R
  obtain ⟨t, a, b⟩ := k D G α A p e s m args below meth c H locs ls C ⟨h1, h2, h3, h4, h5, h6, fun q => absurd q (by decide)⟩ hl T hT X
  exact ⟨t, a, fun _ => b⟩
set_option maxRecDepth 20000 in
theorem lw_from {l : Launch} {Ln : Nat} {xs : Nat → Int32} (htr : l.flags = pinnedFlags ++ [noTraceFlag]) (hL : Ln ≤ 2048) : zx_X l room_1 M_Law_law true 0 0 (zx_Za (zl_Y Ln xs)) 0 [(0, .ref 0)] [] h_zero := by
  refine cy_new (N := 1) nw_Main rfl cl_Law_8 (Nat.le_of_ble_eq_true rfl) (Nat.le_of_ble_eq_true rfl) d_Law_law_0 ?_
  refine zx_dup_a d_Law_law_3 ?_
  refine cy_call b_Main kk_Law_42 rfl rfl rfl rfl (Nat.le_of_ble_eq_true rfl) ⟨Nat.le_of_ble_eq_true rfl, Nat.le_of_ble_eq_true rfl⟩ ⟨Nat.le_of_ble_eq_true rfl, Nat.le_of_ble_eq_true rfl⟩ d_Law_law_4 ?_
  refine zx_astore_n d_Law_law_7 (Nat.le_of_ble_eq_true rfl) rfl ?_
  refine cy_new (N := 103) nw_Mod rfl cl_Law_43 (Nat.le_of_ble_eq_true rfl) (Nat.le_of_ble_eq_true rfl) d_Law_law_8 ?_
  refine zx_dup_a d_Law_law_11 ?_
  refine cy_call (b_Mod rfl ck.n) kk_Law_45 rfl rfl rfl rfl (Nat.le_of_ble_eq_true rfl) ⟨Nat.le_of_ble_eq_true rfl, Nat.le_of_ble_eq_true rfl⟩ ⟨Nat.le_of_ble_eq_true rfl, Nat.le_of_ble_eq_true rfl⟩ d_Law_law_12 ?_
  refine zx_astore_n d_Law_law_15 (Nat.le_of_ble_eq_true rfl) rfl ?_
  refine zx_iconst (v := nI 1) d_Law_law_16 (by decide) ?_
  refine cy_newA (tag := 2) (n := 1) (N := 124) na_long rfl rfl (by decide) (by simp) (Nat.le_of_ble_eq_true rfl) (Nat.le_of_ble_eq_true rfl) d_Law_law_17 ?_
  refine zx_astore_n d_Law_law_19 (Nat.le_of_ble_eq_true rfl) rfl ?_
  refine zx_iconst (v := nI 0) d_Law_law_20 (by decide) ?_
  refine zx_istore d_Law_law_21 (Nat.le_of_ble_eq_true rfl) rfl ?_
  refine zx_down ?_
  exact lw_loop htr hL Ln 0 _ _ h_law.2.1 h_law.2.2 s_law (by omega) (Nat.zero_le _) (Nat.le_of_ble_eq_true rfl) (Nat.le_of_ble_eq_true rfl) h_law_I
