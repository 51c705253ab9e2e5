/-! The class's told block and its next one change places; what is fresh is taken; a bit is turned. -/
section SW
variable {K : zx_Kt} {RJ RJ2 : zx_RJ} {w : Nat}
theorem g_Row.sw (h : ∀ c, c ≠ w → RJ2.1 c = RJ.1 c) {q n : Nat} (g : g_Row K RJ q n) (hq : w < q) : g_Row K RJ2 q n := by
  unfold g_Row at *
  rw [h q (by omega)]
  exact g
theorem g_Bits.sw (h : ∀ c, c ≠ w → RJ2.1 c = RJ.1 c) {q ro n : Nat} (g : g_Bits K RJ q ro n) (hq : w < q) (hr : w < ro) : g_Bits K RJ2 q ro n := by
  obtain ⟨g1, g2, g3, g4, g5⟩ := g
  exact ⟨g1, by rw [h q (by omega)]; exact g2, g3, g4.sw h hr, g5⟩
theorem g_W.sw (h : ∀ c, c ≠ w → RJ2.1 c = RJ.1 c) {q ro n : Nat} (g : g_W K RJ q ro n) (hq : w < q) (hr : w < ro) : g_W K RJ2 q ro n := by
  obtain ⟨g1, g2, g3, g4⟩ := g
  exact ⟨g1, by rw [h q (by omega)]; exact g2, g3, g4.sw h hr⟩
theorem g_ML.sw (h : ∀ c, c ≠ w → RJ2.1 c = RJ.1 c) {q : Nat} (g : g_ML K RJ q) (hq : w < q) : g_ML K RJ2 q := by
  unfold g_ML at *
  rw [h q (by omega)]
  exact g
theorem g_Trees.sw (h : ∀ c, c ≠ w → RJ2.1 c = RJ.1 c) {q : Nat} (g : g_Trees K RJ q) (hq : w < q) : g_Trees K RJ2 q := by
  unfold g_Trees at *
  rw [h q (by omega)]
  exact g
theorem g_Codes.sw (h : ∀ c, c ≠ w → RJ2.1 c = RJ.1 c) {q n : Nat} (g : g_Codes K RJ q n) (hq : w < q) : g_Codes K RJ2 q n := by
  unfold g_Codes at *
  rw [h q (by omega)]
  exact g
theorem g_Block.sw (h : ∀ c, c ≠ w → RJ2.1 c = RJ.1 c) {q : Nat} (g : g_Block K RJ q) (hq : w < q) : g_Block K RJ2 q := by
  unfold g_Block at *
  rw [h q (by omega), h (q + 5) (by omega)]
  exact g
theorem g_Picker.sw (h : ∀ c, c ≠ w → RJ2.1 c = RJ.1 c) {q : Nat} (g : g_Picker K RJ q) (hq : w < q) : g_Picker K RJ2 q := by
  obtain ⟨g1, g2, g3, g4, g5⟩ := g
  exact ⟨g1, by rw [h q (by omega)]; exact g2, g3.sw h (by omega), by rw [h q (by omega)]; exact g4, g5⟩
theorem g_Maker.sw (h : ∀ c, c ≠ w → RJ2.1 c = RJ.1 c) {q : Nat} (g : g_Maker K RJ q) (hq : w < q) : g_Maker K RJ2 q := by
  obtain ⟨g1, g2, g3, g4, g5, g6, g7, g8, g9⟩ := g
  refine ⟨g1, ?_, g3, ?_, g5, ?_, g7.sw h (by omega), ?_, g9.sw h (by omega)⟩
  all_goals rw [h q (by omega)]; assumption
theorem g_BW.sw (h : ∀ c, c ≠ w → RJ2.1 c = RJ.1 c) {q ro n : Nat} (g : g_BW K RJ q ro n) (hq : w < q) (hr : w < ro) : g_BW K RJ2 q ro n := by
  obtain ⟨g1, g2, g3, g4, g5, g6, g7, g8, g9, g10⟩ := g
  refine ⟨g1, ?_, g3.sw h (by omega) hr, ?_, g5, ?_, g7.sw h (by omega), ?_, g9, fun t ht => ⟨?_, (g10 t ht).2.sw h (by omega)⟩⟩
  · rw [h q (by omega)]; exact g2
  · rw [h q (by omega)]; exact g4
  · rw [h q (by omega)]; exact g6
  · rw [h q (by omega)]; exact g8
  · rw [h (q + 4) (by omega)]; exact (g10 t ht).1
theorem g_BR.sw (h : ∀ c, c ≠ w → RJ2.1 c = RJ.1 c) {q br ro n : Nat} (g : g_BR K RJ q br ro n) (hq : w < q) (hb : w < br) (hr : w < ro) : g_BR K RJ2 q br ro n := by
  obtain ⟨g1, g2, g3, g4, g5, g6, g7, g8, g9, g10, g11, g12, g13⟩ := g
  refine ⟨g1, ?_, g3, g4.sw h hb hr, ?_, g6.sw h (by omega), ?_, g8, fun t ht => ⟨?_, (g9 t ht).2.sw h (by omega)⟩, ?_, g11, ?_, g13⟩
  · rw [h q (by omega)]; exact g2
  · rw [h q (by omega)]; exact g5
  · rw [h q (by omega)]; exact g7
  · rw [h (q + 3) (by omega)]; exact (g9 t ht).1
  · rw [h q (by omega)]; exact g10
  · rw [h q (by omega)]; exact g12
def sw_RJ (RJ : zx_RJ) (o tl nx : Nat) : zx_RJ := (zx_u2 (zx_u2 RJ.1 o 7 nx) o 8 tl, RJ.2)
theorem g_Main.sw {o tl nx : Nat} (g : g_Main K RJ o tl nx) : g_Main K (sw_RJ RJ o tl nx) o nx tl := by
  have h : ∀ c, c ≠ o → (sw_RJ RJ o tl nx).1 c = RJ.1 c := fun c hc => by
    show zx_u2 (zx_u2 RJ.1 o 7 nx) o 8 tl c = _
    rw [zx_u2_off hc, zx_u2_off hc]
  have hf : ∀ j, j ≠ 7 → j ≠ 8 → (sw_RJ RJ o tl nx).1 o j = RJ.1 o j := fun j h7 h8 => by
    show zx_u2 (zx_u2 RJ.1 o 7 nx) o 8 tl o j = _
    rw [zx_u2_k h8, zx_u2_k h7]
  have hd := g.d
  refine ⟨g.k, ?_, ?_, ?_, ?_, ?_, ?_, ?_, ?_, ?_, g.i.sw h (by omega), g.ou.sw h (by omega), g.f.sw h (by omega), g.r.sw h (by omega) (by omega) (by omega), g.m.sw h (by omega), g.w.sw h (by omega) (by omega), g.n.sw h (by omega), g.t.sw h (by omega), by omega⟩
  · rw [hf 0 (by decide) (by decide)]; exact g.iR
  · rw [hf 1 (by decide) (by decide)]; exact g.oR
  · rw [hf 2 (by decide) (by decide)]; exact g.fR
  · rw [hf 3 (by decide) (by decide)]; exact g.bR
  · rw [hf 4 (by decide) (by decide)]; exact g.rR
  · rw [hf 5 (by decide) (by decide)]; exact g.mR
  · rw [hf 6 (by decide) (by decide)]; exact g.wR
  · show zx_u2 (zx_u2 RJ.1 o 7 nx) o 8 tl o 7 = nx
    rw [zx_u2_k (by decide), zx_u2_s]
  · show zx_u2 (zx_u2 RJ.1 o 7 nx) o 8 tl o 8 = tl
    rw [zx_u2_s]
theorem g_Mod.sw (h : ∀ c, c ≠ w → RJ2.1 c = RJ.1 c) {m : Nat} (g : g_Mod K RJ m) (hq : m ≠ w) : g_Mod K RJ2 m := by
  unfold g_Mod at *
  rw [h m hq]
  exact g
theorem g_Main.j {o tl nx : Nat} (h : RJ2.1 = RJ.1) (g : g_Main K RJ o tl nx) : g_Main K RJ2 o tl nx := by
  obtain ⟨R, J⟩ := RJ
  obtain ⟨R2, J2⟩ := RJ2
  have h : R2 = R := h
  subst h
  exact g
theorem g_Mod.j {m : Nat} (h : RJ2.1 = RJ.1) (g : g_Mod K RJ m) : g_Mod K RJ2 m := by
  obtain ⟨R, J⟩ := RJ
  obtain ⟨R2, J2⟩ := RJ2
  have h : R2 = R := h
  subst h
  exact g
set_option maxRecDepth 20000 in
theorem c_tellNext (l : Launch) (d : Nat) {o tl nx : Nat} {I : zi_I} (g : g_Main K RJ o tl nx) :
    zx_C l (zx_rm d 0 0) M_Main_tellNext false [.ref o] (K, I, RJ) (fun r h2 => r = none ∧ h2 = (K, I, sw_RJ RJ o tl nx)) := by
  have hd := g.d
  refine zx_C.of (by decide) (fun α => Nat.le_of_ble_eq_true rfl) ?_
  refine zx_aload_n d_Main_tellNext_0 rfl ?_
  refine zi_getR f_Main_59 g.k (by decide) g.tR (by omega) d_Main_tellNext_1 ?_
  refine zx_astore_n (L2 := [(0, .ref o), (1, .ref tl)]) d_Main_tellNext_4 (Nat.le_of_ble_eq_true rfl) rfl ?_
  refine zx_aload_n d_Main_tellNext_5 rfl ?_
  refine zx_aload_n d_Main_tellNext_6 rfl ?_
  refine zi_getR f_Main_63 g.k (by decide) g.nR (by omega) d_Main_tellNext_7 ?_
  refine zx_putR (h := (K, I, RJ)) f_Main_59 g.k (by decide) (by omega) d_Main_tellNext_10 ?_
  refine zx_aload_n d_Main_tellNext_13 rfl ?_
  refine zx_aload_n d_Main_tellNext_14 rfl ?_
  refine zx_putR (h := zx_upR (K, I, RJ) o 7 nx) f_Main_63 g.k (by decide) (by omega) d_Main_tellNext_15 ?_
  exact zx_vret d_Main_tellNext_18 rfl ⟨rfl, rfl⟩ (Nat.zero_le _) (Nat.zero_le _) (fun q => absurd q (by decide))
theorem c_takeFresh (l : Launch) (d : Nat) {o tl nx : Nat} {I : zi_I} {os fs : List Nat} (g : g_Main K RJ o tl nx) (a : a_Row I (o + 3) 4600 os) (af : a_Row I (o + 5) 2000 fs) :
    zi_C l (zx_rm (d + 2) 0 0) M_Main_takeFresh [.ref o] K RJ I (fun r I2 => r = none ∧ a_Row I2 (o + 3) 4600 fs ∧ zf [o + 3, o + 4] I I2) := by
  have hfl := af.1
  refine zi_of (by decide) (fun α => Nat.le_of_ble_eq_true rfl) (r_Main_takeFresh_0 l (d + 1) o g.k g.oR (by omega) g.ou.1 g.fR (by omega) (zi_mono (c_Row_cut (m := 0) l (d + 1) g.ou a (by decide)) ?_))
  rintro r I2 ⟨rfl, a2, z2⟩
  refine ⟨rfl, zi_mono (c_addAll l d g.ou g.f (by omega) a2 (af.keep z2 (by simp) (by simp)) (by rw [List.take_zero]; show 0 + fs.length ≤ 4600; omega)) ?_⟩
  rintro r I3 ⟨rfl, a3, z3⟩
  rw [List.take_zero, List.nil_append] at a3
  exact ⟨rfl, rfl, a3, zf_trans z2 (zf_mono z3 (by simp))⟩
end SW
