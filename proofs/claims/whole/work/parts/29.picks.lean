/-! The picks are written, by both sides. -/
def sp_rep (s : ws_S) (x n : Nat) : Nat → ws_S
  | 0 => s
  | k + 1 => sp_rep (ws_put s x n) x n k
def sp_pick (s : ws_S) (k : Nat) : ws_S := ws_put (sp_rep s 1 1 k) 0 1
def sp_picks (f : Nat → Nat) : ws_S → List Nat → Nat → Nat → ws_S
  | s, _, _, 0 => s
  | s, xs, i, j + 1 => sp_picks f (sp_pick s (ix (f i) xs)) (mv_to xs (ix (f i) xs)) (i + 1) j
theorem ws_n_rep (x n : Nat) : ∀ (k : Nat) (s : ws_S), ws_n (sp_rep s x n k) = ws_n s + k * n
  | 0, s => by simp [sp_rep]
  | k + 1, s => by
    show ws_n (sp_rep (ws_put s x n) x n k) = _
    rw [ws_n_rep x n k, ws_n_put, Nat.succ_mul]
    omega
theorem ws_n_pick (s : ws_S) (k : Nat) : ws_n (sp_pick s k) = ws_n s + k + 1 := by
  unfold sp_pick
  rw [ws_n_put, ws_n_rep, Nat.mul_one]
theorem ws_n_picks (f : Nat → Nat) : ∀ (j : Nat) (s : ws_S) (xs : List Nat) (i : Nat), ws_n s ≤ ws_n (sp_picks f s xs i j)
  | 0, s, xs, i => Nat.le_refl _
  | j + 1, s, xs, i => by
    have := ws_n_picks f j (sp_pick s (ix (f i) xs)) (mv_to xs (ix (f i) xs)) (i + 1)
    rw [ws_n_pick] at this
    show ws_n s ≤ ws_n (sp_picks f (sp_pick s (ix (f i) xs)) (mv_to xs (ix (f i) xs)) (i + 1) j)
    omega
theorem a_W.keep {I I2 : zi_I} {w ro n : Nat} {s : ws_S} {S : List Nat} (a : a_W I w ro n s) (h : zf S I I2) (h1 : w ∉ S) (h2 : ro ∉ S) (h3 : ro + 1 ∉ S) : a_W I2 w ro n s := ⟨by rw [zf_at h h1]; exact a.1, by rw [zf_at h h1]; exact a.2.1, a.2.2.1, a.2.2.2.1, a.2.2.2.2.keep h h2 h3⟩
theorem aL.keep {I I2 : zi_I} {c f q : Nat} {xs : List Nat} {S : List Nat} (a : aL I c f q xs) (h : zf S I I2) (h1 : c ∉ S) (h2 : q ∉ S) : aL I2 c f q xs := ⟨by rw [zf_at h h1]; exact a.1, fun i hi => by rw [zf_at h h2]; exact a.2 i hi⟩
theorem aA.keep {I I2 : zi_I} {q : Nat} {xs : List Nat} {S : List Nat} (a : aA I q xs) (h : zf S I I2) (h2 : q ∉ S) : aA I2 q xs := fun i hi => by rw [zf_at h h2]; exact a i hi
section WP
variable {K : zx_Kt} {RJ : zx_RJ} {o b w ro n q pb : Nat} {ps : List Nat}
/-- the writer of blocks o, its BitWriter w over the row ro, its list q; the block b with its picks pb -/
def g_WP (K : zx_Kt) (RJ : zx_RJ) (o b w ro n q pb : Nat) : Prop := (K.2 o).1 = 12 ∧ RJ.1 o 0 = w ∧ w ≠ 0 ∧ g_W K RJ w ro n ∧ RJ.1 o 2 = q ∧ q ≠ 0 ∧ g_ML K RJ q ∧ (K.2 b).1 = 9 ∧ RJ.1 b 12 = pb ∧ pb ≠ 0 ∧ K.2 pb = (0, 63) ∧
  (∀ x ∈ [b, pb, q, q + 1], x ∉ [w, ro, ro + 1]) ∧ (∀ x ∈ [b, pb, w, ro, ro + 1], x ∉ [q, q + 1])
theorem t_wp38 (l : Launch) (d : Nat) {x2 : Int32} {k : Nat} {Q : zi_Q} (g : g_WP K RJ o b w ro n q pb) (hk : k ≤ 256) :
    ∀ (j i : Nat) (s : ws_S) (I : zi_I), i + j = k → a_W I w ro n s → ws_n (sp_pick s j) ≤ 8 * n →
      (∀ I2, a_W I2 w ro n (sp_pick s j) → zf [w, ro, ro + 1] I I2 → zi_X l (zx_rm (d + 3) 0 0) M_BlockWriter_writePicks K RJ Q 13 [(0, .ref o), (1, .ref b), (2, .int (x2 + 1))] [] I2) →
      zi_X l (zx_rm (d + 3) 0 0) M_BlockWriter_writePicks K RJ Q 38 [(0, .ref o), (1, .ref b), (2, .int x2), (3, .int (nI k)), (4, .int (nI i))] [] I := by
  obtain ⟨g1, g2, g3, g4, -⟩ := g
  intro j
  induction j with
  | zero =>
    intro i s I hi a hn hq
    obtain rfl : i = k := by omega
    rw [ws_n_pick] at hn
    refine r_BlockWriter_writePicks_38 l (d + 2) o b _ _ _ g1 g2 g3 g4.1 ⟨fun _ => zi_mono (c_put (x := 0) (k := 1) l d g4 a (by decide) (by decide) (by omega)) ?_, fun c => absurd (nI_le (Nat.le_refl _) (by omega)) c⟩
    rintro r I2 ⟨rfl, z1, z2⟩
    exact ⟨rfl, hq I2 z1 z2⟩
  | succ j ih =>
    intro i s I hi a hn hq
    have hn2 := hn
    rw [ws_n_pick] at hn2
    refine r_BlockWriter_writePicks_38 l (d + 2) o b _ _ _ g1 g2 g3 g4.1 ⟨fun c => ?_, fun _ => zi_mono (c_put (x := 1) (k := 1) l d g4 a (by decide) (by decide) (by omega)) ?_⟩
    · rw [nI_leI (by omega) (by omega)] at c
      omega
    · rintro r I2 ⟨rfl, z1, z2⟩
      refine ⟨rfl, ?_⟩
      rw [nI_1]
      exact ih (i + 1) (ws_put s 1 1) I2 (by omega) z1 hn (fun I3 y1 y2 => hq I3 y1 (zf_trans z2 y2))
theorem t_wp13 (l : Launch) (d : Nat) {T : Nat} {Q : zi_Q} (g : g_WP K RJ o b w ro n q pb) (hp : ∀ p ∈ ps, p < T) (hT : T ≤ 4) (hl : ps.length ≤ 63) :
    ∀ (j i : Nat) (s : ws_S) (xs : List Nat) (I : zi_I), i + j = ps.length → a_W I w ro n s → a_Row I q 256 xs → (∀ p, p < T → p ∈ xs) → xs.length ≤ 256 → aL I b 11 pb ps → ws_n (sp_picks (fun i => ps.getD i 0) s xs i j) ≤ 8 * n →
      (∀ I2, a_W I2 w ro n (sp_picks (fun i => ps.getD i 0) s xs i j) → zf [w, ro, ro + 1, q, q + 1] I I2 → Q none I2) →
      zi_X l (zx_rm (d + 3) 0 0) M_BlockWriter_writePicks K RJ Q 13 [(0, .ref o), (1, .ref b), (2, .int (nI i))] [] I := by
  have g' := g
  obtain ⟨g1, g2, g3, g4, g5, g6, g7, g8, g9, g10, g11, gd, ge⟩ := g
  intro j
  induction j with
  | zero =>
    intro i s xs I hi a ax hx hxl al hn hq
    refine r_BlockWriter_writePicks_13 l (d + 2) o b _ g8 g1 g5 g6 g9 g10 g11 g7.1 ⟨fun _ => hq I a zf_refl, fun c => ?_⟩
    rw [al.1, nI_leI (by omega) (by omega)] at c
    omega
  | succ j ih =>
    intro i s xs I hi a ax hx hxl al hn hq
    refine r_BlockWriter_writePicks_13 l (d + 2) o b _ g8 g1 g5 g6 g9 g10 g11 g7.1 ⟨fun c => ?_, fun _ => ⟨i, rfl, by omega, ?_⟩⟩
    · rw [al.1, nI_leI (by omega) (by omega)] at c
      omega
    · have hpi : ps.getD i 0 < T := by
        rw [List.getD_eq_getElem?_getD, List.getElem?_eq_getElem (by omega)]
        exact hp _ (List.getElem_mem (by omega))
      have hm := hx _ hpi
      have hk := ix_lt hm
      rw [al.2 i (by omega)]
      refine zi_mono (c_moveValue (k := ix (ps.getD i 0) xs) l d g7 ax hk (ix_at hm) (fun j hj => ix_no hj) (by omega)) ?_
      rintro r I2 ⟨rfl, z1, z2⟩
      refine ⟨_, rfl, ?_⟩
      have z3 : zf [q, q + 1] I I2 := zf_mono z2 (by simp)
      have a2 := a.keep z3 (ge w (by simp)) (ge ro (by simp)) (ge (ro + 1) (by simp))
      have al2 := al.keep z3 (ge b (by simp)) (ge pb (by simp))
      have hn1 : ws_n (sp_pick s (ix (ps.getD i 0) xs)) ≤ 8 * n := Nat.le_trans (ws_n_picks (fun i => ps.getD i 0) j _ (mv_to xs (ix (ps.getD i 0) xs)) (i + 1)) hn
      refine t_wp38 l d g' (by omega) (ix (ps.getD i 0) xs) 0 s I2 (by omega) a2 hn1 (fun I3 y1 y2 => ?_)
      rw [nI_1]
      refine ih (i + 1) _ (mv_to xs (ix (ps.getD i 0) xs)) I3 (by omega) y1 (z1.keep y2 (gd q (by simp)) (gd (q + 1) (by simp))) (fun p h => mv_mem2 hk (hx p h)) (by rw [mv_len hk]; exact hxl) (al2.keep y2 (gd b (by simp)) (gd pb (by simp))) hn (fun I4 u1 u2 => hq I4 u1 (zf_trans (zf_mono z3 (by simp)) (zf_trans (zf_mono y2 (by simp)) u2)))
theorem c_writePicks (l : Launch) (d : Nat) {T : Nat} {I : zi_I} {s : ws_S} (g : g_WP K RJ o b w ro n q pb) (hp : ∀ p ∈ ps, p < T) (hT : T ≤ 4) (hl : ps.length ≤ 63) (a : a_W I w ro n s) (h9 : I b 9 = nI T) (al : aL I b 11 pb ps) (hn : ws_n (sp_picks (fun i => ps.getD i 0) s (List.range T) 0 ps.length) ≤ 8 * n) :
    zi_C l (zx_rm (d + 3) 0 0) M_BlockWriter_writePicks [.ref o, .ref b] K RJ I (fun r I2 => r = none ∧ a_W I2 w ro n (sp_picks (fun i => ps.getD i 0) s (List.range T) 0 ps.length) ∧ zf [w, ro, ro + 1, q, q + 1] I I2) := by
  have g' := g
  obtain ⟨g1, g2, g3, g4, g5, g6, g7, g8, g9, g10, g11, gd, ge⟩ := g
  refine zi_of (by decide) (fun α => Nat.le_of_ble_eq_true rfl) (r_BlockWriter_writePicks_0 l (d + 2) o b g1 g5 g6 g8 g7.1 ?_)
  rw [h9]
  refine zi_mono (c_setToNumbers (m := T) l (d + 1) g7 (by omega)) ?_
  rintro r I2 ⟨rfl, z1, z2⟩
  refine ⟨rfl, t_wp13 l d g' hp hT hl ps.length 0 s (List.range T) I2 (by omega) (a.keep z2 (ge w (by simp)) (ge ro (by simp)) (ge (ro + 1) (by simp))) z1 (fun p h => List.mem_range.mpr h) (by simp; omega) (al.keep z2 (ge b (by simp)) (ge pb (by simp))) hn (fun I3 u1 u2 => ⟨rfl, u1, zf_trans (zf_mono z2 (by simp)) u2⟩)⟩
end WP
