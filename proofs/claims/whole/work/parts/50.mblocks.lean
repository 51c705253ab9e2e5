/-! The reference writes a block. -/
def a_MB (I : zi_I) (m : Nat) (B : bk_B) : Prop := (I m 19 = nI B.ch) ∧ (I m 21 = nI B.og) ∧ (aL I m 14 (m + 5) B.sh) ∧ (∀ i, i < B.co.length → I (m + 6) i = nI (B.co.getD i 0)) ∧ (I m 22 = nI B.ks.length) ∧ (a_Us I m (uu B.ks B.ks.length)) ∧ (aL I m 17 (m + 7) B.sl) ∧ (I m 25 = nI B.T) ∧ (∀ t, t < B.T → a_Tb I m t (B.ks.length + 2) (B.ln t)) ∧ (∀ t, t < B.T → ∀ s, s < B.ks.length + 2 → I (m + 11) (260 * t + s) = nI (cd_c (B.ln t) (B.ks.length + 2) s)) ∧ (a_MP I m B.G B.pk)
theorem a_MB.ch {I : zi_I} {m : Nat} {B : bk_B} (h : a_MB I m B) : I m 19 = nI B.ch := h.1
theorem a_MB.og {I : zi_I} {m : Nat} {B : bk_B} (h : a_MB I m B) : I m 21 = nI B.og := h.2.1
theorem a_MB.sh {I : zi_I} {m : Nat} {B : bk_B} (h : a_MB I m B) : aL I m 14 (m + 5) B.sh := h.2.2.1
theorem a_MB.co {I : zi_I} {m : Nat} {B : bk_B} (h : a_MB I m B) : ∀ i, i < B.co.length → I (m + 6) i = nI (B.co.getD i 0) := h.2.2.2.1
theorem a_MB.ks {I : zi_I} {m : Nat} {B : bk_B} (h : a_MB I m B) : I m 22 = nI B.ks.length := h.2.2.2.2.1
theorem a_MB.us {I : zi_I} {m : Nat} {B : bk_B} (h : a_MB I m B) : a_Us I m (uu B.ks B.ks.length) := h.2.2.2.2.2.1
theorem a_MB.sl {I : zi_I} {m : Nat} {B : bk_B} (h : a_MB I m B) : aL I m 17 (m + 7) B.sl := h.2.2.2.2.2.2.1
theorem a_MB.T {I : zi_I} {m : Nat} {B : bk_B} (h : a_MB I m B) : I m 25 = nI B.T := h.2.2.2.2.2.2.2.1
theorem a_MB.ln {I : zi_I} {m : Nat} {B : bk_B} (h : a_MB I m B) : ∀ t, t < B.T → a_Tb I m t (B.ks.length + 2) (B.ln t) := h.2.2.2.2.2.2.2.2.1
theorem a_MB.cd {I : zi_I} {m : Nat} {B : bk_B} (h : a_MB I m B) : ∀ t, t < B.T → ∀ s, s < B.ks.length + 2 → I (m + 11) (260 * t + s) = nI (cd_c (B.ln t) (B.ks.length + 2) s) := h.2.2.2.2.2.2.2.2.2.1
theorem a_MB.pk {I : zi_I} {m : Nat} {B : bk_B} (h : a_MB I m B) : a_MP I m B.G B.pk := h.2.2.2.2.2.2.2.2.2.2
theorem a_MB.keep {I I2 : zi_I} {m : Nat} {B : bk_B} {F S : List Nat} (a : a_MB I m B) (h : zg m F S I I2) (hF : ∀ j ∈ [14, 17, 19, 21, 22, 25, 28], j ∉ F) (hS : ∀ q ∈ S, q < m + 5 ∨ q = m + 9 ∨ m + 12 < q) : a_MB I2 m B := by
  have e : ∀ q, m + 5 ≤ q → q ≤ m + 12 → q ≠ m + 9 → I2 q = I q := fun q h1 h2 h3 => h.2 q (fun z => by
    rw [List.mem_cons] at z
    rcases z with z | z
    · omega
    · have := hS q z
      omega)
  have f : ∀ j ∈ [14, 17, 19, 21, 22, 25, 28], I2 m j = I m j := fun j hj => h.1 j (hF j hj)
  refine ⟨?_, ?_, ⟨?_, ?_⟩, ?_, ?_, ?_, ⟨?_, ?_⟩, ?_, ?_, ?_, ⟨?_, ?_⟩⟩
  · rw [f _ (by simp)]; exact a.ch
  · rw [f _ (by simp)]; exact a.og
  · rw [f _ (by simp)]; exact a.sh.1
  · rw [e _ (by omega) (by omega) (by omega)]; exact a.sh.2
  · rw [e _ (by omega) (by omega) (by omega)]; exact a.co
  · rw [f _ (by simp)]; exact a.ks
  · unfold a_Us
    rw [e _ (by omega) (by omega) (by omega)]
    exact a.us
  · rw [f _ (by simp)]; exact a.sl.1
  · rw [e _ (by omega) (by omega) (by omega)]; exact a.sl.2
  · rw [f _ (by simp)]; exact a.T
  · unfold a_Tb
    rw [e _ (by omega) (by omega) (by omega)]
    exact a.ln
  · rw [e _ (by omega) (by omega) (by omega)]; exact a.cd
  · rw [f _ (by simp)]; exact a.pk.1
  · rw [e _ (by omega) (by omega) (by omega)]; exact a.pk.2
section MB
variable {K : zx_Kt} {RJ : zx_RJ} {m : Nat} {B : bk_B}
theorem a_MB.w {I I2 : zi_I} {S : List Nat} (a : a_MB I m B) (h : zg m [5, 11] S I I2) (hS : ∀ q ∈ S, q = m + 3 ∨ q = m + 13) : a_MB I2 m B := a.keep h (by simp) (fun q hq => by have := hS q hq; omega)
theorem t_mb78 (l : Launch) (d : Nat) {Q : zi_Q} (g : g_Mod K RJ m) (hB : bk_ok B) :
    ∀ (j k : Nat) (s : ws_S) (I : zi_I), k + j = B.sl.length → a_MB I m B → md_W I m s → ws_n (sp_syms B s k j) ≤ 8 * 8000 →
      (∀ I2, md_W I2 m (sp_syms B s k j) → zg m [5, 11] [m + 3] I I2 → Q none I2) →
      zi_X l (zx_rm (d + 1) 0 0) M_Mod_writeBlock K RJ Q 78 [(0, .ref m), (1, .int (nI k))] [] I := by
  have hsl := hB.sl
  intro j
  induction j with
  | zero =>
    intro k s I hkj a aw hn q
    refine r_Mod_writeBlock_78 l d m _ g.1 g.picksR (by omega) g.picksK g.symbolsR (by omega) g.symbolsK g.codesR (by omega) g.codesK g.lengthsR (by omega) g.lengthsK ⟨fun _ => q I aw zg_refl, fun c => ?_⟩
    rw [a.sl.1, nI_leI (by omega) (by omega)] at c
    omega
  | succ j ih =>
    intro k s I hkj a aw hn q
    have hG := hB.G
    have hyG := hB.yG
    have hT := hB.T
    have hks := hB.ks
    have hp := hB.pk (k / 8) (by omega)
    have hs1 : B.sy k < B.ks.length + 2 := hB.slb k (by omega)
    have hl1 := hB.ln _ hp _ hs1
    have hn2 := Nat.le_trans (ws_n_syms B j (k + 1) _) hn
    rw [ws_n_put] at hn2
    have hcl := Nat.lt_of_lt_of_le (cd_c_lt (B.ln (B.pk (k / 8))) (B.ks.length + 2) (B.sy k)) (two_pow_12 hl1.2)
    have esy : I (m + 7) k = nI (B.sy k) := a.sl.2 k (by omega)
    have e8 : nI k / 8 = nI (k / 8) := pk_div (d := 8) (by omega) (by omega) (by omega)
    have ej : (260 : Int32) * I (m + 12) (k / 8) + I (m + 7) k = nI (260 * B.pk (k / 8) + B.sy k) := by rw [a.pk.2 _ (by omega), esy, show (260 : Int32) = nI 260 from rfl, pk_mul, nI_add]
    refine r_Mod_writeBlock_78 l d m _ g.1 g.picksR (by omega) g.picksK g.symbolsR (by omega) g.symbolsK g.codesR (by omega) g.codesK g.lengthsR (by omega) g.lengthsK ⟨fun c => ?_, fun _ => ⟨k / 8, e8, by omega, k, rfl, by omega, _, ej, by omega, _, ej, by omega, ?_⟩⟩
    · rw [a.sl.1, nI_leI (by omega) (by omega)] at c
      omega
    · rw [a.cd _ hp _ hs1, a.ln _ hp _ hs1]
      refine zi_mono (c_mwrite l d g aw (by omega) (by omega) hn2) ?_
      rintro r I2 ⟨rfl, v1, v2⟩
      rw [nI_1]
      exact ⟨rfl, ih (k + 1) _ I2 (by omega) (a.w v2 (by simp)) v1 hn (fun I3 y1 y2 => q I3 y1 (zg_trans v2 y2))⟩
theorem t_mb57 (l : Launch) (d : Nat) {Q : zi_Q} (g : g_Mod K RJ m) (hB : bk_ok B) :
    ∀ (j t : Nat) (s : ws_S) (I : zi_I), t + j = B.T → a_MB I m B → md_W I m s → ws_n (sp_syms B (sp_tabs B.ln (B.ks.length + 2) s t j) 0 B.sl.length) ≤ 8 * 8000 →
      (∀ I2, md_W I2 m (sp_syms B (sp_tabs B.ln (B.ks.length + 2) s t j) 0 B.sl.length) → zg m [5, 11] [m + 3] I I2 → Q none I2) →
      zi_X l (zx_rm (d + 2) 0 0) M_Mod_writeBlock K RJ Q 57 [(0, .ref m), (1, .int (nI t))] [] I := by
  have hT := hB.T
  have hks := hB.ks
  intro j
  induction j with
  | zero =>
    intro t s I htj a aw hn q
    obtain rfl : t = B.T := by omega
    refine r_Mod_writeBlock_57 l (d + 1) m _ g.1 ⟨fun _ => t_mb78 (B := B) l (d + 1) g hB B.sl.length 0 s I (by omega) a aw hn q, fun c => ?_⟩
    rw [a.T, nI_leI (by omega) (by omega)] at c
    omega
  | succ j ih =>
    intro t s I htj a aw hn q
    have hn2 : ws_n (sp_tab s (B.ln t) (B.ks.length + 2)) ≤ 8 * 8000 := Nat.le_trans (Nat.le_trans (ws_n_tabs B.ln (B.ks.length + 2) j (t + 1) _) (ws_n_syms B _ _ _)) hn
    refine r_Mod_writeBlock_57 l (d + 1) m _ g.1 ⟨fun c => ?_, fun _ => zi_mono (c_writeTable (f := B.ln t) (k := B.ks.length) l d g (by omega) (by omega) (fun i hi => by have := hB.ln t (by omega) i hi; omega) a.ks (a.ln t (by omega)) aw hn2) ?_⟩
    · rw [a.T, nI_leI (by omega) (by omega)] at c
      omega
    · rintro r I2 ⟨rfl, v1, v2⟩
      rw [nI_1]
      exact ⟨rfl, ih (t + 1) _ I2 (by omega) (a.w v2 (by simp)) v1 hn (fun I3 y1 y2 => q I3 y1 (zg_trans v2 y2))⟩
theorem c_mwriteBlock (l : Launch) (d : Nat) {I : zi_I} {s : ws_S} (g : g_Mod K RJ m) (hB : bk_ok B) (a : a_MB I m B) (aw : md_W I m s) (hn : ws_n (sp_block B s) ≤ 8 * 8000) :
    zi_C l (zx_rm (d + 2) 0 0) M_Mod_writeBlock [.ref m] K RJ I (fun r I2 => r = none ∧ md_W I2 m (sp_block B s) ∧ zg m [5, 11] [m + 3, m + 13] I I2) := by
  have hT := hB.T
  have hG := hB.G
  have hch := hB.ch
  have hog := hB.og
  have n4 : ws_n (sp_pks B s) ≤ 8 * 8000 := Nat.le_trans (Nat.le_trans (ws_n_tabs B.ln (B.ks.length + 2) B.T 0 _) (ws_n_syms B _ _ _)) hn
  have n3 : ws_n (sp_mid B s) ≤ 8 * 8000 := Nat.le_trans (ws_n_picks B.pk B.G _ _ 0) n4
  have n3' := n3
  unfold sp_mid at n3'
  rw [ws_n_put, ws_n_put] at n3'
  have n2 : ws_n (sp_maps (uu B.ks B.ks.length) (sp_head B s)) ≤ 8 * 8000 := by omega
  have n1 := Nat.le_trans (ws_n_mapsL (uu B.ks B.ks.length) 16 (ws_put (sp_head B s) (mp (fun i => an (uu B.ks B.ks.length) (16 * i) 16) 16) 16) 0) n2
  rw [ws_n_put] at n1
  unfold sp_head at n1
  rw [ws_n_put, ws_n_put, ws_n_put] at n1
  refine zi_of (by decide) (fun α => Nat.le_of_ble_eq_true rfl) (r_Mod_writeBlock_0 l (d + 1) m g.1 (zi_mono (c_mwrite (x := 3227993) (k := 24) l (d + 1) g aw (by decide) (by decide) (by omega)) ?_))
  rintro r I1 ⟨rfl, w1, f1⟩
  have a1 := a.w f1 (by simp)
  refine ⟨rfl, ?_⟩
  rw [a1.ch]
  refine zi_mono (c_mwrite (x := B.ch) (k := 16) l (d + 1) g w1 (by omega) (by decide) (by rw [ws_n_put]; omega)) ?_
  rintro r I2 ⟨rfl, w2, f2⟩
  have a2 := a1.w f2 (by simp)
  refine ⟨rfl, ?_⟩
  rw [a2.og]
  refine zi_mono (c_mwrite (x := B.og) (k := 6) l (d + 1) g w2 (by omega) (by decide) (by rw [ws_n_put, ws_n_put]; omega)) ?_
  rintro r I3 ⟨rfl, w3, f3⟩
  have a3 := a2.w f3 (by simp)
  refine ⟨rfl, zi_mono (c_writeMaps l d g a3.us w3 n2) ?_⟩
  rintro r I4 ⟨rfl, w4, f4⟩
  have a4 := a3.w f4 (by simp)
  refine ⟨rfl, ?_⟩
  rw [a4.T]
  refine zi_mono (c_mwrite (x := B.T) (k := 3) l (d + 1) g w4 (by omega) (by decide) (show ws_n (sp_maps (uu B.ks B.ks.length) (sp_head B s)) + 3 ≤ 8 * 8000 by omega)) ?_
  rintro r I5 ⟨rfl, w5, f5⟩
  have a5 := a4.w f5 (by simp)
  refine ⟨rfl, ?_⟩
  rw [a5.pk.1]
  refine zi_mono (c_mwrite (x := B.G) (k := 6) l (d + 1) g w5 (by omega) (by decide) (by rw [ws_n_put]; show ws_n (sp_maps (uu B.ks B.ks.length) (sp_head B s)) + 3 + 6 ≤ 8 * 8000; omega)) ?_
  rintro r I6 ⟨rfl, w6, f6⟩
  have a6 := a5.w f6 (by simp)
  have el : ((List.range B.G).map B.pk).length = B.G := by simp
  have eg : ∀ k, k < B.G → ((List.range B.G).map B.pk).getD k 0 = B.pk k := fun k hk => by simp [List.getD, hk]
  have ep : ∀ s, sp_picks (fun i => ((List.range B.G).map B.pk).getD i 0) s (List.range B.T) 0 ((List.range B.G).map B.pk).length = sp_picks B.pk s (List.range B.T) 0 B.G := fun s => by
    rw [el]
    exact sp_picks_congr B.G 0 s _ (fun k _ hk => eg k (by omega))
  refine ⟨rfl, zi_mono (c_mwritePicks (ps := (List.range B.G).map B.pk) (T := B.T) l d g (fun p hp => by
    rw [List.mem_map] at hp
    obtain ⟨k, hk, rfl⟩ := hp
    exact hB.pk k (List.mem_range.mp hk)) hT (by omega) w6 ⟨by rw [el]; exact a6.pk.1, fun i hi => by rw [eg i (by omega)]; exact a6.pk.2 i (by omega)⟩ (by rw [ep]; exact n4)) ?_⟩
  rintro r I7 ⟨rfl, w7, f7⟩
  have a7 := a6.w f7 (by simp)
  rw [ep] at w7
  have z3 : ∀ {I I2 : zi_I}, zg m [5, 11] [m + 3] I I2 → zg m [5, 11] [m + 3, m + 13] I I2 := fun {_ _} h => zg_mono h (by simp) (by simp)
  have zz : zg m [5, 11] [m + 3, m + 13] I I7 := zg_trans (zg_trans (zg_trans (zg_trans (zg_trans (zg_trans (z3 f1) (z3 f2)) (z3 f3)) (z3 f4)) (z3 f5)) (z3 f6)) f7
  exact ⟨rfl, t_mb57 (B := B) l d g hB B.T 0 _ I7 (by omega) a7 w7 hn (fun I8 y1 y2 => ⟨rfl, y1, zg_trans zz (z3 y2)⟩)⟩
end MB
