/-! The lengths of a table are written, by both sides. -/
def sp_len (s : ws_S) (w v : Nat) : ws_S := ws_put (if w < v then sp_rep s 2 2 (v - w) else sp_rep s 3 2 (w - v)) 0 1
def sp_lens (f : Nat → Nat) : ws_S → Nat → Nat → Nat → ws_S
  | s, _, _, 0 => s
  | s, w, i, j + 1 => sp_lens f (sp_len s w (f i)) (f i) (i + 1) j
def sp_tab (s : ws_S) (f : Nat → Nat) (n : Nat) : ws_S := sp_lens f (ws_put s (f 0) 5) (f 0) 0 n
theorem ws_n_len (s : ws_S) (w v : Nat) : ws_n (sp_len s w v) = ws_n s + 2 * (v - w) + 2 * (w - v) + 1 := by
  unfold sp_len
  rw [ws_n_put]
  by_cases h : w < v
  · rw [if_pos h, ws_n_rep]
    omega
  · rw [if_neg h, ws_n_rep]
    omega
theorem ws_n_lens (f : Nat → Nat) : ∀ (j : Nat) (s : ws_S) (w i : Nat), ws_n s ≤ ws_n (sp_lens f s w i j)
  | 0, s, w, i => Nat.le_refl _
  | j + 1, s, w, i => by
    have := ws_n_lens f j (sp_len s w (f i)) (f i) (i + 1)
    rw [ws_n_len] at this
    show ws_n s ≤ ws_n (sp_lens f (sp_len s w (f i)) (f i) (i + 1) j)
    omega
theorem zi_absN {a b : Nat} (ha : a < 2 ^ 30) (hb : b < 2 ^ 30) : zi_absv (nI a - nI b) = nI (if b ≤ a then a - b else b - a) := by
  unfold zi_absv
  by_cases h : b ≤ a
  · rw [if_pos h, pk_sub h, if_pos (nI_pos' (by omega))]
  · rw [if_neg h, if_neg (Int32.not_le.mpr (pk_sneg hb (by omega))), Int32.zero_sub, Int32.neg_sub, pk_sub (by omega)]
theorem sp_rep_app (s : ws_S) (x n : Nat) : ∀ k, sp_rep s x n (k + 1) = sp_rep (ws_put s x n) x n k := fun _ => rfl
section WL
variable {K : zx_Kt} {RJ : zx_RJ} {o w ro n q N : Nat} {f : Nat → Nat}
def g_WL (K : zx_Kt) (RJ : zx_RJ) (o w ro n q N : Nat) : Prop := (K.2 o).1 = 12 ∧ RJ.1 o 0 = w ∧ w ≠ 0 ∧ g_W K RJ w ro n ∧ K.2 q = (0, N) ∧ q ∉ [w, ro, ro + 1]
theorem t_wl48 (l : Launch) (d : Nat) {i st c k0 : Nat} {x3 : Int32} {Q : zi_Q} (g : g_WL K RJ o w ro n q N) (hi : i < N) (hst : st < 4) (hc : c < 2 ^ 20) :
    ∀ (k : Nat) (s : ws_S) (I : zi_I), k < 2 ^ 20 → I q i = nI c → a_W I w ro n s → ws_n s + 2 * k + 1 ≤ 8 * n →
      (∀ I2, a_W I2 w ro n (ws_put (sp_rep s st 2 k) 0 1) → zf [w, ro, ro + 1] I I2 → zi_X l (zx_rm (d + 3) 0 0) M_BlockWriter_writeLengths K RJ Q 16 [(0, .ref o), (1, .ref q), (2, .int (nI k0)), (3, .int (nI c)), (4, .int (nI (i + 1)))] [] I2) →
      zi_X l (zx_rm (d + 3) 0 0) M_BlockWriter_writeLengths K RJ Q 48 [(0, .ref o), (1, .ref q), (2, .int (nI k0)), (3, .int x3), (4, .int (nI i)), (5, .int (nI st)), (6, .int (nI k))] [] I := by
  obtain ⟨g1, g2, g3, g4, g5, g6⟩ := g
  intro k
  induction k with
  | zero =>
    intro s I hk hci a hn hq
    refine r_BlockWriter_writeLengths_48 l (d + 2) o q _ _ _ _ _ g1 g2 g3 g4.1 g5 ⟨fun _ => zi_mono (c_put (x := 0) (k := 1) l d g4 a (by decide) (by decide) (by omega)) ?_, fun c => absurd (by decide) c⟩
    rintro r I2 ⟨rfl, z1, z2⟩
    refine ⟨rfl, i, rfl, hi, ?_⟩
    rw [zf_at z2 g6, hci, nI_1]
    exact hq I2 z1 z2
  | succ k ih =>
    intro s I hk hci a hn hq
    refine r_BlockWriter_writeLengths_48 l (d + 2) o q _ _ _ _ _ g1 g2 g3 g4.1 g5 ⟨fun c => ?_, fun _ => zi_mono (c_put (x := st) (k := 2) l d g4 a (by omega) (by decide) (by omega)) ?_⟩
    · rw [show (0 : Int32) = nI 0 from rfl, nI_leI (by omega) (by omega)] at c
      omega
    · rintro r I2 ⟨rfl, z1, z2⟩
      refine ⟨rfl, ?_⟩
      rw [pk_m1]
      exact ih (ws_put s st 2) I2 (by omega) (by rw [zf_at z2 g6]; exact hci) z1 (by rw [ws_n_put]; omega) (fun I3 y1 y2 => hq I3 y1 (zf_trans z2 y2))
theorem t_wl16 (l : Launch) (d : Nat) {k : Nat} {Q : zi_Q} (g : g_WL K RJ o w ro n q N) (hk : k ≤ N) (hN : N < 2 ^ 20) (hf : ∀ i, i < k → f i < 2 ^ 20) :
    ∀ (j i v : Nat) (s : ws_S) (I : zi_I), i + j = k → v < 2 ^ 20 → (∀ i, i < k → I q i = nI (f i)) → a_W I w ro n s → ws_n (sp_lens f s v i j) ≤ 8 * n →
      (∀ I2, a_W I2 w ro n (sp_lens f s v i j) → zf [w, ro, ro + 1] I I2 → Q none I2) →
      zi_X l (zx_rm (d + 3) 0 0) M_BlockWriter_writeLengths K RJ Q 16 [(0, .ref o), (1, .ref q), (2, .int (nI k)), (3, .int (nI v)), (4, .int (nI i))] [] I := by
  intro j
  induction j with
  | zero =>
    intro i v s I hi hv ha a hn hq
    obtain rfl : i = k := by omega
    exact r_BlockWriter_writeLengths_16 l (d + 2) o q _ _ _ g.2.2.2.2.1 ⟨fun _ => hq I a zf_refl, fun c => absurd (nI_le (Nat.le_refl _) (by omega)) c⟩
  | succ j ih =>
    intro i v s I hi hv ha a hn hq
    have hfi := hf i (by omega)
    have hn1 : ws_n (sp_len s v (f i)) ≤ 8 * n := Nat.le_trans (ws_n_lens f j (sp_len s v (f i)) (f i) (i + 1)) hn
    have hn2 := hn1
    rw [ws_n_len] at hn2
    have key : ∀ I2, a_W I2 w ro n (sp_len s v (f i)) → zf [w, ro, ro + 1] I I2 → zi_X l (zx_rm (d + 3) 0 0) M_BlockWriter_writeLengths K RJ Q 16 [(0, .ref o), (1, .ref q), (2, .int (nI k)), (3, .int (nI (f i))), (4, .int (nI (i + 1)))] [] I2 := fun I2 z1 z2 =>
      ih (i + 1) (f i) _ I2 (by omega) hfi (fun c hc => by rw [zf_at z2 g.2.2.2.2.2]; exact ha c hc) z1 hn (fun I3 y1 y2 => hq I3 y1 (zf_trans z2 y2))
    refine r_BlockWriter_writeLengths_16 l (d + 2) o q _ _ _ g.2.2.2.2.1 ⟨fun c => ?_, fun _ => ⟨i, rfl, by omega, fun c => ⟨i, rfl, by omega, ?_⟩, fun c => ⟨i, rfl, by omega, ?_⟩⟩⟩
    · rw [nI_leI (by omega) (by omega)] at c
      omega
    · rw [ha i (by omega), nI_leI (by omega) (by omega)] at c
      rw [ha i (by omega), zi_absN (by omega) (by omega), show (if v ≤ f i then f i - v else v - f i) = v - f i by by_cases h : v ≤ f i <;> simp [h] <;> omega]
      refine t_wl48 (st := 3) l d g (by omega) (by decide) hfi (v - f i) s I (by omega) (ha i (by omega)) a (by omega) (fun I2 z1 z2 => key I2 ?_ z2)
      rw [sp_len, if_neg (by omega)]
      exact z1
    · rw [ha i (by omega), nI_leI (by omega) (by omega)] at c
      rw [ha i (by omega), zi_absN (by omega) (by omega), if_pos (by omega)]
      refine t_wl48 (st := 2) l d g (by omega) (by decide) hfi (f i - v) s I (by omega) (ha i (by omega)) a (by omega) (fun I2 z1 z2 => key I2 ?_ z2)
      rw [sp_len, if_pos (by omega)]
      exact z1
theorem c_writeLengths (l : Launch) (d : Nat) {k : Nat} {I : zi_I} {s : ws_S} (g : g_WL K RJ o w ro n q N) (hk : k ≤ N) (hk0 : 0 < k) (hN : N < 2 ^ 20) (hf : ∀ i, i < k → f i < 2 ^ 20) (ha : ∀ i, i < k → I q i = nI (f i)) (a : a_W I w ro n s) (hn : ws_n (sp_tab s f k) ≤ 8 * n) :
    zi_C l (zx_rm (d + 3) 0 0) M_BlockWriter_writeLengths [.ref o, .ref q, .int (nI k)] K RJ I (fun r I2 => r = none ∧ a_W I2 w ro n (sp_tab s f k) ∧ zf [w, ro, ro + 1] I I2) := by
  have hn1 : ws_n (ws_put s (f 0) 5) ≤ 8 * n := Nat.le_trans (ws_n_lens f k _ (f 0) 0) hn
  rw [ws_n_put] at hn1
  refine zi_of (by decide) (fun α => Nat.le_of_ble_eq_true rfl) (r_BlockWriter_writeLengths_0 l (d + 2) o q _ g.2.2.2.2.1 g.1 g.2.1 g.2.2.1 g.2.2.2.1.1 ⟨by omega, ?_⟩)
  rw [ha 0 hk0]
  refine zi_mono (c_put (k := 5) l d g.2.2.2.1 a (by have := hf 0 hk0; omega) (by decide) hn1) ?_
  rintro r I2 ⟨rfl, z1, z2⟩
  exact ⟨rfl, t_wl16 l d g hk hN hf k 0 (f 0) _ I2 (by omega) (hf 0 hk0) (fun c hc => by rw [zf_at z2 g.2.2.2.2.2]; exact ha c hc) z1 hn (fun I3 y1 y2 => ⟨rfl, y1, zf_trans z2 y2⟩)⟩
end WL
section ML2
variable {K : zx_Kt} {RJ : zx_RJ} {m t : Nat} {f : Nat → Nat}
/-- what the reference's table t holds -/
def a_Tb (I : zi_I) (m t n : Nat) (f : Nat → Nat) : Prop := ∀ i, i < n → I (m + 10) (260 * t + i) = nI (f i)
theorem a_Tb.keep {I I2 : zi_I} {F S : List Nat} {n : Nat} (a : a_Tb I m t n f) (h : zg m F S I I2) (hs : m + 10 ∉ S) : a_Tb I2 m t n f := fun i hi => by rw [zg_cell h (by omega) hs]; exact a i hi
theorem t_mt57 (l : Launch) (d : Nat) {i kd : Nat} {Q : zi_Q} (g : g_Mod K RJ m) (ht : t < 4) (hi : i < 260) (hf : f i < 2 ^ 20) (hkd : i < kd) :
    ∀ (k v : Nat) (s : ws_S) (I : zi_I), v = f i + k → v < 2 ^ 20 → a_Tb I m t kd f → md_W I m s → ws_n s + 2 * k + 1 ≤ 8 * 8000 →
      (∀ I2, md_W I2 m (ws_put (sp_rep s 3 2 k) 0 1) → zg m [5, 11] [m + 3] I I2 → zi_X l (zx_rm (d + 1) 0 0) M_Mod_writeTable K RJ Q 19 [(0, .ref m), (1, .int (nI t)), (2, .int (nI (f i))), (3, .int (nI (i + 1)))] [] I2) →
      zi_X l (zx_rm (d + 1) 0 0) M_Mod_writeTable K RJ Q 57 [(0, .ref m), (1, .int (nI t)), (2, .int (nI v)), (3, .int (nI i))] [] I := by
  have ei : 260 * nI t + nI i = nI (260 * t + i) := by rw [show (260 : Int32) = nI 260 from rfl, pk_mul, nI_add]
  intro k
  induction k with
  | zero =>
    intro v s I hv hv2 ha a hn hq
    obtain rfl : v = f i := by omega
    refine r_Mod_writeTable_57 l d m _ _ _ g.1 g.lengthsR (by omega) g.lengthsK ⟨_, ei, by omega, fun _ => zi_mono (c_mwrite (x := 0) (k := 1) l d g a (by decide) (by decide) (by omega)) ?_, fun c => ?_⟩
    · rintro r I2 ⟨rfl, z1, z2⟩
      refine ⟨rfl, ?_⟩
      rw [nI_1]
      exact hq I2 z1 z2
    · rw [ha i hkd] at c
      exact absurd (nI_le (Nat.le_refl _) (by omega)) c
  | succ k ih =>
    intro v s I hv hv2 ha a hn hq
    obtain ⟨v', rfl⟩ : ∃ v', v = v' + 1 := ⟨v - 1, by omega⟩
    refine r_Mod_writeTable_57 l d m _ _ _ g.1 g.lengthsR (by omega) g.lengthsK ⟨_, ei, by omega, fun c => ?_, fun _ => zi_mono (c_mwrite (x := 3) (k := 2) l d g a (by decide) (by decide) (by omega)) ?_⟩
    · rw [ha i hkd, nI_leI (by omega) (by omega)] at c
      omega
    · rintro r I2 ⟨rfl, z1, z2⟩
      refine ⟨rfl, ?_⟩
      rw [pk_m1]
      exact ih v' (ws_put s 3 2) I2 (by omega) (by omega) (ha.keep z2 (by simp)) z1 (by rw [ws_n_put]; omega) (fun I3 y1 y2 => hq I3 y1 (zg_trans z2 y2))
theorem t_mt29 (l : Launch) (d : Nat) {i kd : Nat} {Q : zi_Q} (g : g_Mod K RJ m) (ht : t < 4) (hi : i < 260) (hf : f i < 2 ^ 20) (hkd : i < kd) :
    ∀ (k v : Nat) (s : ws_S) (I : zi_I), k = f i - v → v < 2 ^ 20 → a_Tb I m t kd f → md_W I m s → ws_n (sp_len s v (f i)) ≤ 8 * 8000 →
      (∀ I2, md_W I2 m (sp_len s v (f i)) → zg m [5, 11] [m + 3] I I2 → zi_X l (zx_rm (d + 1) 0 0) M_Mod_writeTable K RJ Q 19 [(0, .ref m), (1, .int (nI t)), (2, .int (nI (f i))), (3, .int (nI (i + 1)))] [] I2) →
      zi_X l (zx_rm (d + 1) 0 0) M_Mod_writeTable K RJ Q 29 [(0, .ref m), (1, .int (nI t)), (2, .int (nI v)), (3, .int (nI i))] [] I := by
  have ei : 260 * nI t + nI i = nI (260 * t + i) := by rw [show (260 : Int32) = nI 260 from rfl, pk_mul, nI_add]
  intro k
  induction k with
  | zero =>
    intro v s I hk hv ha a hn hq
    have hn2 := hn
    rw [ws_n_len] at hn2
    refine r_Mod_writeTable_29 l d m _ _ _ g.1 g.lengthsR (by omega) g.lengthsK ⟨_, ei, by omega, fun _ => ?_, fun c => ?_⟩
    · refine t_mt57 l d g ht hi hf hkd (v - f i) v s I (by omega) hv ha a (by omega) (fun I2 z1 z2 => hq I2 ?_ z2)
      rw [sp_len, if_neg (by omega)]
      exact z1
    · rw [ha i hkd, nI_leI (by omega) (by omega)] at c
      omega
  | succ k ih =>
    intro v s I hk hv ha a hn hq
    have hn2 := hn
    rw [ws_n_len] at hn2
    refine r_Mod_writeTable_29 l d m _ _ _ g.1 g.lengthsR (by omega) g.lengthsK ⟨_, ei, by omega, fun c => ?_, fun _ => zi_mono (c_mwrite (x := 2) (k := 2) l d g a (by decide) (by decide) (by omega)) ?_⟩
    · rw [ha i hkd, nI_leI (by omega) (by omega)] at c
      omega
    · rintro r I2 ⟨rfl, z1, z2⟩
      refine ⟨rfl, ?_⟩
      rw [nI_1]
      have es : sp_len (ws_put s 2 2) (v + 1) (f i) = sp_len s v (f i) := by
        unfold sp_len
        rw [if_pos (show v < f i by omega)]
        by_cases h : v + 1 < f i
        · rw [if_pos h, show f i - v = (f i - (v + 1)) + 1 by omega]
          rfl
        · rw [if_neg h, show f i - v = 1 by omega, show v + 1 - f i = 0 by omega]
          rfl
      exact ih (v + 1) (ws_put s 2 2) I2 (by omega) (by omega) (ha.keep z2 (by simp)) z1 (by rw [es]; exact hn) (fun I3 y1 y2 => hq I3 (by rw [← es]; exact y1) (zg_trans z2 y2))
theorem t_mt19 (l : Launch) (d : Nat) {k : Nat} {Q : zi_Q} (g : g_Mod K RJ m) (ht : t < 4) (hk : k + 2 ≤ 260) (hf : ∀ i, i < k + 2 → f i < 2 ^ 20) :
    ∀ (j i v : Nat) (s : ws_S) (I : zi_I), i + j = k + 2 → v < 2 ^ 20 → I m 22 = nI k → a_Tb I m t (k + 2) f → md_W I m s → ws_n (sp_lens f s v i j) ≤ 8 * 8000 →
      (∀ I2, md_W I2 m (sp_lens f s v i j) → zg m [5, 11] [m + 3] I I2 → Q none I2) →
      zi_X l (zx_rm (d + 1) 0 0) M_Mod_writeTable K RJ Q 19 [(0, .ref m), (1, .int (nI t)), (2, .int (nI v)), (3, .int (nI i))] [] I := by
  intro j
  induction j with
  | zero =>
    intro i v s I hi hv h22 ha a hn hq
    refine r_Mod_writeTable_19 l d m _ _ _ g.1 ⟨fun _ => hq I a zg_refl, fun c => ?_⟩
    rw [h22, show (2 : Int32) = nI 2 from rfl, nI_add, nI_leI (by omega) (by omega)] at c
    omega
  | succ j ih =>
    intro i v s I hi hv h22 ha a hn hq
    have hn1 : ws_n (sp_len s v (f i)) ≤ 8 * 8000 := Nat.le_trans (ws_n_lens f j (sp_len s v (f i)) (f i) (i + 1)) hn
    refine r_Mod_writeTable_19 l d m _ _ _ g.1 ⟨fun c => ?_, fun _ => ?_⟩
    · rw [h22, show (2 : Int32) = nI 2 from rfl, nI_add, nI_leI (by omega) (by omega)] at c
      omega
    · exact t_mt29 l d g ht (by omega) (hf i (by omega)) (by omega) _ v s I rfl hv ha a hn1 (fun I2 z1 z2 => ih (i + 1) (f i) _ I2 (by omega) (hf i (by omega)) (by rw [z2.1 22 (by simp)]; exact h22) (ha.keep z2 (by simp)) z1 hn (fun I3 y1 y2 => hq I3 y1 (zg_trans z2 y2)))
theorem c_writeTable (l : Launch) (d : Nat) {k : Nat} {I : zi_I} {s : ws_S} (g : g_Mod K RJ m) (ht : t < 4) (hk : k + 2 ≤ 260) (hf : ∀ i, i < k + 2 → f i < 2 ^ 20) (h22 : I m 22 = nI k) (ha : a_Tb I m t (k + 2) f) (a : md_W I m s) (hn : ws_n (sp_tab s f (k + 2)) ≤ 8 * 8000) :
    zi_C l (zx_rm (d + 1) 0 0) M_Mod_writeTable [.ref m, .int (nI t)] K RJ I (fun r I2 => r = none ∧ md_W I2 m (sp_tab s f (k + 2)) ∧ zg m [5, 11] [m + 3] I I2) := by
  have hn1 : ws_n (ws_put s (f 0) 5) ≤ 8 * 8000 := Nat.le_trans (ws_n_lens f (k + 2) _ (f 0) 0) hn
  rw [ws_n_put] at hn1
  have e0 : I (m + 10) (260 * t) = nI (f 0) := ha 0 (by omega)
  refine zi_of (by decide) (fun α => Nat.le_of_ble_eq_true rfl) (r_Mod_writeTable_0 l d m _ g.1 g.lengthsR (by omega) g.lengthsK ⟨260 * t, by rw [show (260 : Int32) = nI 260 from rfl, pk_mul], by omega, ?_⟩)
  rw [e0]
  refine zi_mono (c_mwrite (k := 5) l d g a (by have := hf 0 (by omega); omega) (by decide) hn1) ?_
  rintro r I2 ⟨rfl, z1, z2⟩
  exact ⟨rfl, t_mt19 l d g ht hk hf (k + 2) 0 (f 0) _ I2 (by omega) (hf 0 (by omega)) (by rw [z2.1 22 (by simp)]; exact h22) (ha.keep z2 (by simp)) z1 hn (fun I3 y1 y2 => ⟨rfl, y1, zg_trans z2 y2⟩)⟩
end ML2
