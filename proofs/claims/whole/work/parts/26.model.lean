/-! The reference: its cells, and its leaves. -/
def md_t : List (Nat × Nat × Nat × Nat) := [(2, 1, 0, 400), (4, 2, 0, 8000), (6, 3, 0, 8000), (13, 4, 0, 3600), (15, 5, 0, 80), (16, 6, 0, 80), (18, 7, 0, 80), (23, 8, 1, 256), (24, 9, 0, 256), (26, 10, 0, 1040), (27, 11, 0, 1040), (29, 12, 0, 64), (30, 13, 0, 4), (31, 14, 0, 80), (32, 15, 0, 520), (33, 16, 0, 520), (42, 17, 0, 80), (43, 18, 0, 80), (44, 19, 0, 1040), (45, 20, 0, 64)]
/-- cell m is the reference, its arrays lie behind it -/
def g_Mod (K : zx_Kt) (RJ : zx_RJ) (m : Nat) : Prop := (K.2 m).1 = 6 ∧ ∀ q ∈ md_t, RJ.1 m q.1 = m + q.2.1 ∧ K.2 (m + q.2.1) = (q.2.2.1, q.2.2.2)
section MG
variable {K : zx_Kt} {RJ : zx_RJ} {m : Nat}
theorem g_Mod.inpR (g : g_Mod K RJ m) : RJ.1 m 2 = m + 1 := (g.2 (2, 1, 0, 400) (by decide)).1
theorem g_Mod.inpK (g : g_Mod K RJ m) : K.2 (m + 1) = (0, 400) := (g.2 (2, 1, 0, 400) (by decide)).2
theorem g_Mod.outRowR (g : g_Mod K RJ m) : RJ.1 m 4 = m + 2 := (g.2 (4, 2, 0, 8000) (by decide)).1
theorem g_Mod.outRowK (g : g_Mod K RJ m) : K.2 (m + 2) = (0, 8000) := (g.2 (4, 2, 0, 8000) (by decide)).2
theorem g_Mod.freshR (g : g_Mod K RJ m) : RJ.1 m 6 = m + 3 := (g.2 (6, 3, 0, 8000) (by decide)).1
theorem g_Mod.freshK (g : g_Mod K RJ m) : K.2 (m + 3) = (0, 8000) := (g.2 (6, 3, 0, 8000) (by decide)).2
theorem g_Mod.plainR (g : g_Mod K RJ m) : RJ.1 m 13 = m + 4 := (g.2 (13, 4, 0, 3600) (by decide)).1
theorem g_Mod.plainK (g : g_Mod K RJ m) : K.2 (m + 4) = (0, 3600) := (g.2 (13, 4, 0, 3600) (by decide)).2
theorem g_Mod.shortRowR (g : g_Mod K RJ m) : RJ.1 m 15 = m + 5 := (g.2 (15, 5, 0, 80) (by decide)).1
theorem g_Mod.shortRowK (g : g_Mod K RJ m) : K.2 (m + 5) = (0, 80) := (g.2 (15, 5, 0, 80) (by decide)).2
theorem g_Mod.columnR (g : g_Mod K RJ m) : RJ.1 m 16 = m + 6 := (g.2 (16, 6, 0, 80) (by decide)).1
theorem g_Mod.columnK (g : g_Mod K RJ m) : K.2 (m + 6) = (0, 80) := (g.2 (16, 6, 0, 80) (by decide)).2
theorem g_Mod.symbolsR (g : g_Mod K RJ m) : RJ.1 m 18 = m + 7 := (g.2 (18, 7, 0, 80) (by decide)).1
theorem g_Mod.symbolsK (g : g_Mod K RJ m) : K.2 (m + 7) = (0, 80) := (g.2 (18, 7, 0, 80) (by decide)).2
theorem g_Mod.usedR (g : g_Mod K RJ m) : RJ.1 m 23 = m + 8 := (g.2 (23, 8, 1, 256) (by decide)).1
theorem g_Mod.usedK (g : g_Mod K RJ m) : K.2 (m + 8) = (1, 256) := (g.2 (23, 8, 1, 256) (by decide)).2
theorem g_Mod.listR (g : g_Mod K RJ m) : RJ.1 m 24 = m + 9 := (g.2 (24, 9, 0, 256) (by decide)).1
theorem g_Mod.listK (g : g_Mod K RJ m) : K.2 (m + 9) = (0, 256) := (g.2 (24, 9, 0, 256) (by decide)).2
theorem g_Mod.lengthsR (g : g_Mod K RJ m) : RJ.1 m 26 = m + 10 := (g.2 (26, 10, 0, 1040) (by decide)).1
theorem g_Mod.lengthsK (g : g_Mod K RJ m) : K.2 (m + 10) = (0, 1040) := (g.2 (26, 10, 0, 1040) (by decide)).2
theorem g_Mod.codesR (g : g_Mod K RJ m) : RJ.1 m 27 = m + 11 := (g.2 (27, 11, 0, 1040) (by decide)).1
theorem g_Mod.codesK (g : g_Mod K RJ m) : K.2 (m + 11) = (0, 1040) := (g.2 (27, 11, 0, 1040) (by decide)).2
theorem g_Mod.picksR (g : g_Mod K RJ m) : RJ.1 m 29 = m + 12 := (g.2 (29, 12, 0, 64) (by decide)).1
theorem g_Mod.picksK (g : g_Mod K RJ m) : K.2 (m + 12) = (0, 64) := (g.2 (29, 12, 0, 64) (by decide)).2
theorem g_Mod.orderR (g : g_Mod K RJ m) : RJ.1 m 30 = m + 13 := (g.2 (30, 13, 0, 4) (by decide)).1
theorem g_Mod.orderK (g : g_Mod K RJ m) : K.2 (m + 13) = (0, 4) := (g.2 (30, 13, 0, 4) (by decide)).2
theorem g_Mod.placesR (g : g_Mod K RJ m) : RJ.1 m 31 = m + 14 := (g.2 (31, 14, 0, 80) (by decide)).1
theorem g_Mod.placesK (g : g_Mod K RJ m) : K.2 (m + 14) = (0, 80) := (g.2 (31, 14, 0, 80) (by decide)).2
theorem g_Mod.weightsR (g : g_Mod K RJ m) : RJ.1 m 32 = m + 15 := (g.2 (32, 15, 0, 520) (by decide)).1
theorem g_Mod.weightsK (g : g_Mod K RJ m) : K.2 (m + 15) = (0, 520) := (g.2 (32, 15, 0, 520) (by decide)).2
theorem g_Mod.intoR (g : g_Mod K RJ m) : RJ.1 m 33 = m + 16 := (g.2 (33, 16, 0, 520) (by decide)).1
theorem g_Mod.intoK (g : g_Mod K RJ m) : K.2 (m + 16) = (0, 520) := (g.2 (33, 16, 0, 520) (by decide)).2
theorem g_Mod.lastColumnR (g : g_Mod K RJ m) : RJ.1 m 42 = m + 17 := (g.2 (42, 17, 0, 80) (by decide)).1
theorem g_Mod.lastColumnK (g : g_Mod K RJ m) : K.2 (m + 17) = (0, 80) := (g.2 (42, 17, 0, 80) (by decide)).2
theorem g_Mod.lastSymbolRowR (g : g_Mod K RJ m) : RJ.1 m 43 = m + 18 := (g.2 (43, 18, 0, 80) (by decide)).1
theorem g_Mod.lastSymbolRowK (g : g_Mod K RJ m) : K.2 (m + 18) = (0, 80) := (g.2 (43, 18, 0, 80) (by decide)).2
theorem g_Mod.lastLengthsR (g : g_Mod K RJ m) : RJ.1 m 44 = m + 19 := (g.2 (44, 19, 0, 1040) (by decide)).1
theorem g_Mod.lastLengthsK (g : g_Mod K RJ m) : K.2 (m + 19) = (0, 1040) := (g.2 (44, 19, 0, 1040) (by decide)).2
theorem g_Mod.lastPicksR (g : g_Mod K RJ m) : RJ.1 m 45 = m + 20 := (g.2 (45, 20, 0, 64) (by decide)).1
theorem g_Mod.lastPicksK (g : g_Mod K RJ m) : K.2 (m + 20) = (0, 64) := (g.2 (45, 20, 0, 64) (by decide)).2
end MG
/-- the reference's IN -/
def a_In (I : zi_I) (m : Nat) (bs : List Nat) : Prop := bs.length ≤ 400 ∧ I m 1 = nI bs.length ∧ (∀ i, i < bs.length → I (m + 1) i = nI (bs.getD i 0)) ∧ ∀ b ∈ bs, b < 256
theorem a_In.lt {I : zi_I} {m : Nat} {bs : List Nat} (a : a_In I m bs) (i : Nat) : bs.getD i 0 < 256 := by
  rw [List.getD_eq_getElem?_getD]
  cases h : bs[i]? with
  | none => simp
  | some b => exact a.2.2.2 b (List.mem_of_getElem? h)
theorem a_In.u2 {I : zi_I} {m : Nat} {bs : List Nat} {j : Nat} {v : Int32} (a : a_In I m bs) (hj : j ≠ 1) : a_In (zx_u2 I m j v) m bs := ⟨a.1, by rw [zx_u2_k (Ne.symm hj)]; exact a.2.1, fun i hi => by rw [zx_u2_ne (by omega)]; exact a.2.2.1 i hi, a.2.2.2⟩
section MF
variable {K : zx_Kt} {RJ : zx_RJ} {I : zi_I} {m p : Nat} {bs : List Nat}
theorem c_fail (l : Launch) (d : Nat) {x y : Int32} (g : (K.2 m).1 = 6) : zi_C l (zx_rm d 0 0) M_Mod_fail [.ref m, .int x, .int y] K RJ I (fun r I2 => r = none ∧ I2 = if I m 8 = 0 then zx_u2 (zx_u2 I m 8 x) m 9 y else I) :=
  zi_of (by decide) (fun α => Nat.le_of_ble_eq_true rfl) (r_Mod_fail_0 l d m x y g ⟨fun c => ⟨rfl, by rw [if_neg c]⟩, fun c => ⟨rfl, by rw [if_pos c]⟩⟩)
theorem c_failIf (l : Launch) (d : Nat) {b x y : Int32} (g : (K.2 m).1 = 6) : zi_C l (zx_rm (d + 1) 0 0) M_Mod_failIf [.ref m, .int b, .int x, .int y] K RJ I (fun r I2 => r = none ∧ I2 = if b ≠ 0 ∧ I m 8 = 0 then zx_u2 (zx_u2 I m 8 x) m 9 y else I) := by
  refine zi_of (by decide) (fun α => Nat.le_of_ble_eq_true rfl) (r_Mod_failIf_0 l d m b x y g ⟨fun c => ⟨rfl, by rw [if_neg (fun h => h.1 c)]⟩, fun c => zi_mono (c_fail l d g) ?_⟩)
  rintro r I2 ⟨rfl, rfl⟩
  refine ⟨rfl, rfl, ?_⟩
  by_cases h : I m 8 = 0
  · rw [if_pos h, if_pos ⟨c, h⟩]
  · rw [if_neg h, if_neg (fun z => h z.2)]
theorem t_take (l : Launch) (d : Nat) {k : Nat} {x2 : Int32} {Q : zi_Q} (g : g_Mod K RJ m) (a : a_In I m bs) (hk : k ≤ 24) (hp : p + k ≤ 8 * bs.length) (q : Q (some (.int (nI (bt_num bs p k)))) (zx_u2 I m 7 (nI (p + k)))) :
    ∀ j i, i + j = k → zi_X l (zx_rm (d + 1) 0 0) M_Mod_take K RJ Q 37 [(0, .ref m), (1, .int (nI k)), (2, .int x2), (3, .int (nI (bt_num bs p i))), (4, .int (nI i))] [] (zx_u2 I m 7 (nI (p + i))) := by
  intro j
  induction j with
  | zero =>
    intro i hi
    obtain rfl : i = k := by omega
    exact r_Mod_take_37 l d m _ _ _ _ g.1 g.inpR (by omega) g.inpK ⟨fun _ => q, fun c => absurd (nI_le (Nat.le_refl _) (by omega)) c⟩
  | succ j ih =>
    intro i hi
    have hl := a.1
    have e8 : nI (p + i) / 8 = nI ((p + i) / 8) := pk_div (d := 8) (by omega) (by omega) (by omega)
    have em : nI (p + i) - nI (p + i) / 8 * 8 = nI ((p + i) % 8) := pk_rem (d := 8) (by omega) (by omega) (by omega)
    refine r_Mod_take_37 l d m _ _ _ _ g.1 g.inpR (by omega) g.inpK ⟨fun c => ?_, fun _ => ⟨(p + i) / 8, by rw [zx_u2_s, e8], by omega, ?_⟩⟩
    · rw [nI_leI (by omega) (by omega)] at c
      omega
    · rw [zx_u2_s, em, zx_u2_ne (by omega), a.2.2.1 _ (by omega), show (7 : Int32) = nI 7 from rfl, pk_sub (by omega), zb_shr (Nat.lt_of_lt_of_le (a.lt _) (by decide)) (by omega), zb_mod2 (Nat.lt_of_le_of_lt (Nat.div_le_self _ _) (Nat.lt_of_lt_of_le (a.lt _) (by decide))), show (2 : Int32) = nI 2 from rfl, pk_mul, nI_add, nI_1, nI_1, zx_u2_u2]
      exact ih (i + 1) (by omega)
theorem c_take (l : Launch) (d : Nat) {k : Nat} {y : Int32} (g : g_Mod K RJ m) (a : a_In I m bs) (h7 : I m 7 = nI p) (hp : p < 2 ^ 20) (hk : k ≤ 24) : zi_C l (zx_rm (d + 1) 0 0) M_Mod_take [.ref m, .int (nI k), .int y] K RJ I (fun r I2 =>
    (I m 8 = 0 ∧ p + k ≤ 8 * bs.length ∧ r = some (.int (nI (bt_num bs p k))) ∧ I2 = zx_u2 I m 7 (nI (p + k))) ∨ (I m 8 = 0 ∧ 8 * bs.length < p + k ∧ r = some (.int 0) ∧ I2 = zx_u2 (zx_u2 I m 8 (-2)) m 9 y) ∨ (I m 8 ≠ 0 ∧ r = some (.int 0) ∧ I2 = I)) := by
  have hl := a.1
  refine zi_of (by decide) (fun α => Nat.le_of_ble_eq_true rfl) (r_Mod_take_0 l d m _ _ g.1 ⟨fun c => zi_mono (c_fail l d g.1) ?_, fun c => ⟨fun c2 => ?_, fun c2 => zi_mono (c_fail l d g.1) ?_⟩⟩)
  · rintro r I2 ⟨rfl, rfl⟩
    exact ⟨rfl, Or.inr (Or.inr ⟨c, rfl, by rw [if_neg c]⟩)⟩
  · rw [h7, a.2.1, nI_add, show (8 : Int32) = nI 8 from rfl, pk_mul, nI_leI (by omega) (by omega)] at c2
    have h0 := t_take (x2 := y) l d g a hk c2 (Q := fun r I2 => (I m 8 = 0 ∧ p + k ≤ 8 * bs.length ∧ r = some (.int (nI (bt_num bs p k))) ∧ I2 = zx_u2 I m 7 (nI (p + k))) ∨ (I m 8 = 0 ∧ 8 * bs.length < p + k ∧ r = some (.int 0) ∧ I2 = zx_u2 (zx_u2 I m 8 (-2)) m 9 y) ∨ (I m 8 ≠ 0 ∧ r = some (.int 0) ∧ I2 = I)) (Or.inl ⟨c, c2, rfl, rfl⟩) k 0 (by omega)
    refine zx_eq rfl rfl rfl ?_ h0
    rw [Nat.add_zero, zx_u2_self h7]
  · rintro r I2 ⟨rfl, rfl⟩
    rw [h7, a.2.1, nI_add, show (8 : Int32) = nI 8 from rfl, pk_mul, nI_leI (by omega) (by omega)] at c2
    exact ⟨rfl, Or.inr (Or.inl ⟨c, by omega, rfl, by rw [if_pos c]⟩)⟩
end MF
