/-! Faults have numbers below 0. -/
section NEG
variable {bs : List Nat}
theorem rd_nums_neg {p : Nat} {e : Int32 × Nat} (h : rd_nums bs p = .inl e) : e.1 < 0 := by
  unfold rd_nums at h
  split at h
  · split at h
    · exact absurd h (by simp)
    · simp only [Sum.inl.injEq] at h; subst h; dsimp only; decide
  · simp only [Sum.inl.injEq] at h; subst h; dsimp only; decide
theorem rd_mapL_neg {used : Nat} {e : Int32 × Nat} : ∀ (j i : Nat) (u : Nat → Bool) (p bg : Nat), rd_mapL bs used j i u p bg = .inl e → e.1 < 0
  | 0, _, u, p, _, h => by
    unfold rd_mapL at h
    split at h
    · simp only [Sum.inl.injEq] at h; subst h; dsimp only; decide
    · exact absurd h (by simp)
  | j + 1, i, u, p, bg, h => by
    unfold rd_mapL at h
    split at h
    · split at h
      · exact rd_mapL_neg j _ _ _ _ h
      · simp only [Sum.inl.injEq] at h; subst h; dsimp only; decide
    · exact rd_mapL_neg j _ _ _ _ h
theorem rd_maps_neg {p : Nat} {e : Int32 × Nat} (h : rd_maps bs p = .inl e) : e.1 < 0 := by
  unfold rd_maps at h
  split at h
  · exact rd_mapL_neg 16 0 _ _ _ h
  · simp only [Sum.inl.injEq] at h; subst h; dsimp only; decide
theorem rd_T_neg {p : Nat} {e : Int32 × Nat} (h : rd_T bs p = .inl e) : e.1 < 0 := by
  unfold rd_T at h
  split at h
  · split at h
    · simp only [Sum.inl.injEq] at h; subst h; dsimp only; decide
    · exact absurd h (by simp)
  · simp only [Sum.inl.injEq] at h; subst h; dsimp only; decide
theorem rd_G_neg {p : Nat} {e : Int32 × Nat} (h : rd_G bs p = .inl e) : e.1 < 0 := by
  unfold rd_G at h
  split at h
  · split at h
    · simp only [Sum.inl.injEq] at h; subst h; dsimp only; decide
    · exact absurd h (by simp)
  · simp only [Sum.inl.injEq] at h; subst h; dsimp only; decide
theorem rd_TG_neg {p : Nat} {e : Int32 × Nat} (h : rd_TG bs p = .inl e) : e.1 < 0 := by
  unfold rd_TG at h
  cases e1 : rd_T bs p with
  | inl f =>
    rw [e1] at h
    simp only [Sum.inl.injEq] at h
    rw [← h]
    exact rd_T_neg e1
  | inr w =>
    obtain ⟨t, q1⟩ := w
    rw [e1] at h
    simp only at h
    cases e2 : rd_G bs q1 with
    | inl f =>
      rw [e2] at h
      simp only [Sum.inl.injEq] at h
      rw [← h]
      exact rd_G_neg e2
    | inr w =>
      rw [e2] at h
      exact absurd h (by simp)
theorem rd_one_neg {bg : Nat} {e : Int32 × Nat} : ∀ j k p, rd_one bs bg j k p = .inl e → e.1 < 0
  | 0, _, _, h => by
    unfold rd_one at h
    simp only [Sum.inl.injEq] at h; subst h; dsimp only; decide
  | j + 1, k, p, h => by
    unfold rd_one at h
    split at h
    · split at h
      · exact rd_one_neg j _ _ h
      · exact absurd h (by simp)
    · simp only [Sum.inl.injEq] at h; subst h; dsimp only; decide
theorem rd_picks_neg {T : Nat} {e : Int32 × Nat} : ∀ (j : Nat) (xs out : List Nat) (p : Nat), rd_picks bs T j xs out p = .inl e → e.1 < 0
  | 0, xs, out, p, h => by
    unfold rd_picks at h
    exact absurd h (by simp)
  | j + 1, xs, out, p, h => by
    unfold rd_picks at h
    cases e1 : rd_one bs p T 0 p with
    | inl f =>
      rw [e1] at h
      simp only [Sum.inl.injEq] at h
      rw [← h]
      exact rd_one_neg T 0 p e1
    | inr w =>
      obtain ⟨k, q2⟩ := w
      rw [e1] at h
      exact rd_picks_neg j _ _ _ h
theorem rd_ln_neg {e : Int32 × Nat} : ∀ j len p, rd_ln bs j len p = .inl e → e.1 < 0
  | 0, _, _, h => by
    unfold rd_ln at h
    simp only [Sum.inl.injEq] at h; subst h; dsimp only; decide
  | j + 1, len, p, h => by
    unfold rd_ln at h
    split at h
    · split at h
      · split at h
        · split at h
          · split at h
            · exact rd_ln_neg j _ _ h
            · simp only [Sum.inl.injEq] at h; subst h; dsimp only; decide
          · split at h
            · exact rd_ln_neg j _ _ h
            · simp only [Sum.inl.injEq] at h; subst h; dsimp only; decide
        · simp only [Sum.inl.injEq] at h; subst h; dsimp only; decide
      · exact absurd h (by simp)
    · simp only [Sum.inl.injEq] at h; subst h; dsimp only; decide
theorem rd_lens_neg {e : Int32 × Nat} : ∀ (j len : Nat) (out : List Nat) (p : Nat), rd_lens bs j len out p = .inl e → e.1 < 0
  | 0, _, out, p, h => by
    unfold rd_lens at h
    exact absurd h (by simp)
  | j + 1, len, out, p, h => by
    unfold rd_lens at h
    cases e1 : rd_ln bs 3200 len p with
    | inl f =>
      rw [e1] at h
      simp only [Sum.inl.injEq] at h
      rw [← h]
      exact rd_ln_neg 3200 len p e1
    | inr w =>
      obtain ⟨k, q2⟩ := w
      rw [e1] at h
      exact rd_lens_neg j _ _ _ h
theorem rd_tab_neg {n p : Nat} {e : Int32 × Nat} (h : rd_tab bs n p = .inl e) : e.1 < 0 := by
  unfold rd_tab at h
  split at h
  · split at h
    · exact rd_lens_neg n _ _ _ h
    · simp only [Sum.inl.injEq] at h; subst h; dsimp only; decide
  · simp only [Sum.inl.injEq] at h; subst h; dsimp only; decide
theorem rd_tabs_neg {n : Nat} {e : Int32 × Nat} : ∀ (j : Nat) (out : List (List Nat)) (p : Nat), rd_tabs bs n j out p = .inl e → e.1 < 0
  | 0, out, p, h => by
    unfold rd_tabs at h
    exact absurd h (by simp)
  | j + 1, out, p, h => by
    unfold rd_tabs at h
    cases e1 : rd_tab bs n p with
    | inl f =>
      rw [e1] at h
      simp only [Sum.inl.injEq] at h
      rw [← h]
      exact rd_tab_neg e1
    | inr w =>
      obtain ⟨k, q2⟩ := w
      rw [e1] at h
      exact rd_tabs_neg j _ _ h
theorem rd_sym_neg {ln : Nat → Nat} {n bg : Nat} {e : Int32 × Nat} : ∀ j b len p, rd_sym bs ln n bg j b len p = .inl e → e.1 < 0
  | 0, _, _, _, h => by
    unfold rd_sym at h
    simp only [Sum.inl.injEq] at h; subst h; dsimp only; decide
  | j + 1, b, len, p, h => by
    unfold rd_sym at h
    split at h
    · split at h
      · exact rd_sym_neg j _ _ _ h
      · exact absurd h (by simp)
    · simp only [Sum.inl.injEq] at h; subst h; dsimp only; decide
theorem rd_syms_neg {lns : List (List Nat)} {kc lim : Nat} {pk : Nat → Nat} {e : Int32 × Nat} : ∀ (j i : Nat) (xs co : List Nat) (dt : Nat) (sl : List Nat) (p : Nat), rd_syms bs lns kc lim pk j i xs co dt sl p = .inl e → e.1 < 0
  | 0, i, xs, co, dt, sl, p, h => by
    unfold rd_syms at h
    simp only [Sum.inl.injEq] at h; subst h; dsimp only; decide
  | j + 1, i, xs, co, dt, sl, p, h => by
    rw [rd_syms_s] at h
    cases e1 : rd_sym bs (rd_tb lns (pk (i / 8))) (kc + 2) p 12 0 0 p with
    | inl f =>
      rw [e1] at h
      simp only [Sum.inl.injEq] at h
      rw [← h]
      exact rd_sym_neg 12 0 0 p e1
    | inr w =>
      obtain ⟨s, q'⟩ := w
      rw [e1] at h
      simp only at h
      split at h
      · exact absurd h (by simp)
      · split at h
        · split at h
          · exact rd_syms_neg j _ _ _ _ _ _ h
          · simp only [Sum.inl.injEq] at h; subst h; dsimp only; decide
        · split at h
          · exact rd_syms_neg j _ _ _ _ _ _ h
          · simp only [Sum.inl.injEq] at h; subst h; dsimp only; decide
theorem rd_block_neg {lim p : Nat} {e : Int32 × Nat} (h : rd_block bs lim p = .inl e) : e.1 < 0 := by
  unfold rd_block at h
  cases e1 : rd_nums bs p with
  | inl f => rw [e1] at h; simp only [rd_b2, Sum.inl.injEq] at h; rw [← h]; exact rd_nums_neg e1
  | inr w1 =>
  obtain ⟨⟨ch, og⟩, p1⟩ := w1
  rw [e1] at h
  change rd_b3 bs lim ch og (rd_maps bs p1) = _ at h
  cases e2 : rd_maps bs p1 with
  | inl f => rw [e2] at h; simp only [rd_b3, Sum.inl.injEq] at h; rw [← h]; exact rd_maps_neg e2
  | inr w2 =>
  obtain ⟨u, p2⟩ := w2
  rw [e2] at h
  change rd_b4 bs lim ch og u (rd_TG bs p2) = _ at h
  cases e3 : rd_TG bs p2 with
  | inl f => rw [e3] at h; simp only [rd_b4, Sum.inl.injEq] at h; rw [← h]; exact rd_TG_neg e3
  | inr w3 =>
  obtain ⟨⟨T, G⟩, p3⟩ := w3
  rw [e3] at h
  change rd_b5 bs lim ch og u T G (rd_picks bs T G (List.range T) [] p3) = _ at h
  cases e4 : rd_picks bs T G (List.range T) [] p3 with
  | inl f => rw [e4] at h; simp only [rd_b5, Sum.inl.injEq] at h; rw [← h]; exact rd_picks_neg _ _ _ _ e4
  | inr w4 =>
  obtain ⟨pk, p4⟩ := w4
  rw [e4] at h
  change rd_b6 bs lim ch og u T G pk (rd_tabs bs ((kf u 256).length + 2) T [] p4) = _ at h
  cases e5 : rd_tabs bs ((kf u 256).length + 2) T [] p4 with
  | inl f => rw [e5] at h; simp only [rd_b6, Sum.inl.injEq] at h; rw [← h]; exact rd_tabs_neg _ _ _ e5
  | inr w5 =>
  obtain ⟨lns, p5⟩ := w5
  rw [e5] at h
  change rd_end ch og u T G pk lns (rd_syms bs lns (kf u 256).length lim (fun g => pk.getD g 0) (8 * G) 0 (kf u 256) [] 1 [] p5) = _ at h
  cases e6 : rd_syms bs lns (kf u 256).length lim (fun g => pk.getD g 0) (8 * G) 0 (kf u 256) [] 1 [] p5 with
  | inl f => rw [e6] at h; simp only [rd_end, Sum.inl.injEq] at h; rw [← h]; exact rd_syms_neg _ _ _ _ _ _ _ e6
  | inr w6 =>
  obtain ⟨⟨sl, co, en⟩, p6⟩ := w6
  rw [e6] at h
  change (if og < co.length then (if (rb_le og co).2 = 4 then (Sum.inl (-13, en) : rd_R (bk_B × List Nat)) else Sum.inr ((rb_bk ch og u T G pk lns sl co, (rb_le og co).1), p6)) else Sum.inl (-12, en)) = _ at h
  split at h
  · split at h
    · simp only [Sum.inl.injEq] at h; subst h; dsimp only; decide
    · exact absurd h (by simp)
  · simp only [Sum.inl.injEq] at h; subst h; dsimp only; decide
theorem rd_block_ne1 {lim p : Nat} {e : Int32 × Nat} (h : rd_block bs lim p = .inl e) : e.1 ≠ 1 := fun h1 => by
  have := rd_block_neg h
  rw [h1] at this
  exact absurd this (by decide)
end NEG
/-! The reference reads streams. -/
def ms_fault (e : Int32 × Nat) (m : Nat) (I2 : zi_I) : Prop := (e.1 = 1 ∧ I2 m 0 = 1 ∧ I2 m 8 = 0) ∨ (e.1 ≠ 1 ∧ e.1 ≠ 0 ∧ I2 m 0 = 0 ∧ I2 m 8 = e.1 ∧ I2 m 9 = nI e.2)
def mst_post (rd : rd_R st_V) (n8 m n0 : Nat) (r : Option Value) (I2 : zi_I) : Prop :=
  match rd with
  | .inl e => (∃ x, r = some (.int x)) ∧ ms_fault e m I2
  | .inr v => ∃ c, v.1.2.1 = n0 + c ∧ c ≤ 3200 ∧ r = some (.int (nI c)) ∧ I2 m 0 = 0 ∧ I2 m 8 = 0 ∧ I2 m 7 = nI v.2 ∧ v.2 ≤ n8 ∧ aL I2 m 5 (m + 3) v.1.1 ∧ v.1.1.length ≤ 2000 ∧ (0 < v.1.2.1 → a_MB I2 m v.1.2.2 ∧ bk_ok v.1.2.2)
def ms_F : List Nat := [0, 5, 7, 8, 9, 12, 14, 17, 19, 20, 21, 22, 25, 28]
def ms_S (m : Nat) : List Nat := [m + 3, m + 4, m + 5, m + 6, m + 7, m + 8, m + 9, m + 10, m + 11, m + 12, m + 13, m + 14]
section MST
variable {K : zx_Kt} {RJ : zx_RJ} {m p : Nat} {bs : List Nat}
theorem ms_F_of {F : List Nat} (h : ∀ j ∈ F, j ∈ ms_F) {S : List Nat} (h2 : ∀ q ∈ S, q ∈ ms_S m) {I I2 : zi_I} (z : zg m F S I I2) : zg m ms_F (ms_S m) I I2 := zg_mono z h h2
theorem rd_block_len {lim p : Nat} {v : bk_B × List Nat} {q : Nat} (hlim : lim ≤ 64) (h : rd_block bs lim p = .inr (v, q)) : v.2.length ≤ 3112 ∧ ∀ x ∈ v.2, x < 256 := by
  unfold rd_block at h
  cases e1 : rd_nums bs p with
  | inl f => rw [e1] at h; exact absurd h (by simp [rd_b2])
  | inr w1 =>
  obtain ⟨⟨ch, og⟩, p1⟩ := w1
  rw [e1] at h
  change rd_b3 bs lim ch og (rd_maps bs p1) = _ at h
  cases e2 : rd_maps bs p1 with
  | inl f => rw [e2] at h; exact absurd h (by simp [rd_b3])
  | inr w2 =>
  obtain ⟨u, p2⟩ := w2
  have ok2 := rd_maps_pos e2
  rw [e2] at h
  change rd_b4 bs lim ch og u (rd_TG bs p2) = _ at h
  cases e3 : rd_TG bs p2 with
  | inl f => rw [e3] at h; exact absurd h (by simp [rd_b4])
  | inr w3 =>
  obtain ⟨⟨T, G⟩, p3⟩ := w3
  rw [e3] at h
  change rd_b5 bs lim ch og u T G (rd_picks bs T G (List.range T) [] p3) = _ at h
  cases e4 : rd_picks bs T G (List.range T) [] p3 with
  | inl f => rw [e4] at h; exact absurd h (by simp [rd_b5])
  | inr w4 =>
  obtain ⟨pk, p4⟩ := w4
  rw [e4] at h
  change rd_b6 bs lim ch og u T G pk (rd_tabs bs ((kf u 256).length + 2) T [] p4) = _ at h
  cases e5 : rd_tabs bs ((kf u 256).length + 2) T [] p4 with
  | inl f => rw [e5] at h; exact absurd h (by simp [rd_b6])
  | inr w5 =>
  obtain ⟨lns, p5⟩ := w5
  rw [e5] at h
  change rd_end ch og u T G pk lns (rd_syms bs lns (kf u 256).length lim (fun g => pk.getD g 0) (8 * G) 0 (kf u 256) [] 1 [] p5) = _ at h
  cases e6 : rd_syms bs lns (kf u 256).length lim (fun g => pk.getD g 0) (8 * G) 0 (kf u 256) [] 1 [] p5 with
  | inl f => rw [e6] at h; exact absurd h (by simp [rd_end])
  | inr w6 =>
  obtain ⟨⟨sl, co, en⟩, p6⟩ := w6
  obtain ⟨s1, s2, s3, s4, s5, s6⟩ := rd_syms_ok (8 * G) 0 (kf u 256) [] 1 [] p5 e6 rfl ok2 (fun v hv => (kf_mem.mp hv).1) (fun v hv => absurd hv List.not_mem_nil) (Nat.zero_le _) (Nat.le_refl _) (Nat.le_refl _) (fun v hv => absurd hv List.not_mem_nil)
  dsimp only at s1 s2 s3
  rw [e6] at h
  change (if og < co.length then (if (rb_le og co).2 = 4 then (Sum.inl (-13, en) : rd_R (bk_B × List Nat)) else Sum.inr ((rb_bk ch og u T G pk lns sl co, (rb_le og co).1), p6)) else Sum.inl (-12, en)) = _ at h
  split at h
  · rename_i c4
    split at h
    · exact absurd h (by simp)
    · simp only [Sum.inr.injEq, Prod.mk.injEq] at h
      rw [← h.1]
      have shb : ∀ i, i < co.length → (un_sh (fun i => co.getD i 0) co.length og).getD i 0 < 256 := fun i hi => un_sh_lt c4 s3 _ (getD_mem (by rw [un_sh_len]; exact hi))
      have lef := le_fin (f := fun i => (un_sh (fun i => co.getD i 0) co.length og).getD i 0) co.length 0 0 0 [] (fun k _ h => shb k (by omega)) ⟨by omega, 0, by omega, by simp⟩
      exact ⟨le_iv_bd lef (by omega), le_lt co.length 0 0 0 [] (fun k _ h => shb k (by omega)) (by decide) (fun x hx => absurd hx List.not_mem_nil)⟩
  · exact absurd h (by simp)
theorem t_mst82 (l : Launch) (d : Nat) {Q : zi_Q} {lv n0 : Nat} (g : g_Mod K RJ m) (hlv : lv ≤ 8) :
    ∀ (j k tot c p : Nat) (fs : List Nat) (B : bk_B) (x1 : Int32) (I : zi_I), k + j = 3200 → 24 * k ≤ p → c = k → p ≤ 8 * bs.length → tot < 65536 → a_In I m bs → I m 0 = 0 → I m 7 = nI p → I m 8 = 0 → aL I m 5 (m + 3) fs → fs.length ≤ 2000 → (0 < n0 + c → a_MB I m B ∧ bk_ok B) →
      (∀ r I2, mst_post (rd_str bs lv j tot fs (n0 + c) B p) (8 * bs.length) m n0 r I2 → zg m ms_F (ms_S m) I I2 → Q r I2) →
      zi_X l (zx_rm (d + 5) 0 0) M_Mod_readStream K RJ Q 82 [(0, .ref m), (1, .int x1), (2, .int (nI lv)), (3, .int (nI tot)), (4, .int (nI c))] [] I := by
  -- the loop ends
  have st82 : ∀ (I : zi_I) (x1 x3 : Int32) (c : Nat), (¬ I m 8 = 0 ∨ ¬ I m 0 = 0) → Q (some (.int (nI c))) I → zi_X l (zx_rm (d + 5) 0 0) M_Mod_readStream K RJ Q 82 [(0, .ref m), (1, .int x1), (2, .int (nI lv)), (3, .int x3), (4, .int (nI c))] [] I := fun I x1 x3 c h hq => by
    have f := r_Mod_readStream_295 l (d + 4) (K := K) (RJ := RJ) (Q := Q) (I := I) m x1 (nI lv) x3 (nI c) hq
    refine r_Mod_readStream_82 l (d + 4) m _ _ _ _ g.1 ⟨fun _ => f, fun e => ⟨fun _ => f, fun e2 => ?_⟩⟩
    rcases h with h | h
    · exact absurd e h
    · exact absurd e2 h
  have st262 : ∀ (I : zi_I) (x1 x3 x5 : Int32) (c : Nat), (¬ I m 8 = 0 ∨ ¬ I m 0 = 0) → Q (some (.int (nI c))) I → zi_X l (zx_rm (d + 5) 0 0) M_Mod_readStream K RJ Q 262 [(0, .ref m), (1, .int x1), (2, .int (nI lv)), (3, .int x3), (4, .int (nI c)), (5, .int x5)] [] I := fun I x1 x3 x5 c h hq => by
    have f := r_Mod_readStream_292 l (d + 4) (K := K) (RJ := RJ) (Q := Q) (I := I) m x1 (nI lv) x3 (nI c) x5 (st82 I x1 x3 c h hq)
    refine r_Mod_readStream_262 l (d + 4) m _ _ _ _ _ g.1 ⟨fun _ => f, fun e => ⟨fun _ => f, fun e2 => ?_⟩⟩
    rcases h with h | h
    · exact absurd e h
    · exact absurd e2 h
  have st206 : ∀ (I : zi_I) (x1 x3 x5 : Int32) (c : Nat), ¬ I m 8 = 0 → Q (some (.int (nI c))) I → zi_X l (zx_rm (d + 5) 0 0) M_Mod_readStream K RJ Q 206 [(0, .ref m), (1, .int x1), (2, .int (nI lv)), (3, .int x3), (4, .int (nI c)), (5, .int x5)] [] I := fun I x1 x3 x5 c h hq => r_Mod_readStream_206 l (d + 4) m _ _ _ _ _ g.1 ⟨fun _ => st262 I x1 x3 x5 c (Or.inl h) hq, fun e => absurd e h⟩
  have st185 : ∀ (I : zi_I) (x1 x3 x5 y0 : Int32) (c : Nat), ¬ I m 8 = 0 → Q (some (.int (nI c))) I → zi_X l (zx_rm (d + 5) 0 0) M_Mod_readStream K RJ Q 185 [(0, .ref m), (1, .int x1), (2, .int (nI lv)), (3, .int x3), (4, .int (nI c)), (5, .int x5)] [.int y0, .ref m] I := fun I x1 x3 x5 y0 c h hq => by
    refine r_Mod_readStream_185 l (d + 4) m _ _ _ _ _ _ m g.1 g.1 (zi_mono (c_fi l (d + 3) g.1) ?_)
    rintro r I2 ⟨rfl, (⟨_, e, _⟩ | ⟨_, rfl⟩)⟩
    · exact absurd e h
    · exact ⟨rfl, fun _ => st206 I2 x1 x3 x5 c h hq, fun e => absurd e h⟩
  intro j
  induction j with
  | zero =>
    intro k tot c p fs B x1 I hk hkp hc hp ht a h0 h7 h8 af hfs hB q
    have hbl := a.1
    omega
  | succ j ih =>
    intro k tot c p fs B x1 I hk hkp hc hp ht a h0 h7 h8 af hfs hB q
    have hbl := a.1
    have b24 := bn_lt bs p (k := 24) (by decide)
    rw [rd_str_s] at q
    refine r_Mod_readStream_82 l (d + 4) m _ _ _ _ g.1 ⟨fun e => absurd h8 e, fun _ => ⟨fun e => absurd h0 e, fun _ => ?_⟩⟩
    rw [h7]
    refine zi_mono (c_mt (k := 24) l (d + 3) g a h7 hp h8 (by decide)) ?_
    rintro r I2 ⟨⟨v, rfl, hv⟩, z⟩
    have zF : zg m ms_F (ms_S m) I I2 := ms_F_of (by unfold ms_F; simp) (by simp) z
    have h02 : I2 m 0 = 0 := by rw [z.1 0 (by simp)]; exact h0
    rcases hv with ⟨e1, rfl, e3, e4⟩ | ⟨e1, rfl, e3, e4, e5⟩
    · rw [if_pos e1] at q
      refine ⟨_, rfl, fun e => absurd e4 e, fun _ => ⟨fun x => ?_, fun x => ?_⟩⟩
      · rw [show (1536581 : Int32) = nI 1536581 from rfl, nI_eq (by omega) (by omega)] at x
        rw [if_neg x] at q
        refine r_Mod_readStream_172 l (d + 4) m _ _ _ _ _ ⟨fun y => ?_, fun y => ?_⟩
        · rw [show (3227993 : Int32) = nI 3227993 from rfl, nI_eq (by omega) (by omega)] at y
          rw [if_pos y] at q
          refine r_Mod_readStream_185 l (d + 4) m _ _ _ _ _ _ m g.1 g.1 (zi_mono (c_fi l (d + 3) g.1) ?_)
          rintro r I3 ⟨rfl, (⟨h, _⟩ | ⟨_, rfl⟩)⟩
          · exact absurd rfl h
          · refine ⟨rfl, fun e => absurd e4 e, fun _ => ?_⟩
            rw [show (8 : Int32) * nI lv = nI (8 * lv) by rw [show (8 : Int32) = nI 8 from rfl, pk_mul]]
            have a3 := a.keepg z (by simp) (by simp)
            refine zi_mono (c_mreadBlock (bs := bs) (p := p + 24) (lim := 8 * lv) l d g (by omega) a3 e3 e1 e4) ?_
            rintro r I4 ⟨rfl, p4, h20, z4⟩
            have z4F : zg m ms_F (ms_S m) I I4 := zg_trans zF (ms_F_of (by unfold ms_F mr_F; simp) (by unfold ms_S mr_S; simp) z4)
            have h04 : I4 m 0 = 0 := by rw [z4.1 0 (by unfold mr_F; simp)]; exact h02
            have af4 : aL I4 m 5 (m + 3) fs := (af.keepg z (by simp) (by omega) (by simp)).keepg z4 (by unfold mr_F; simp) (by omega) (by unfold mr_S; simp)
            refine ⟨rfl, ?_⟩
            cases e : rd_block bs (8 * lv) (p + 24) with
            | inl f =>
              rw [e] at p4 q
              obtain ⟨k1, k2, k3, k4⟩ := p4
              have n4 : ¬ I4 m 8 = 0 := by rw [k1]; exact k3
              exact st206 I4 _ _ _ c n4 (q _ I4 ⟨⟨_, rfl⟩, Or.inr ⟨rd_block_ne1 e, k3, h04, k1, k2⟩⟩ z4F)
            | inr v =>
              rw [e] at p4 q
              simp only at q
              obtain ⟨k1, k2, k3, k4, k5, k6⟩ := p4
              obtain ⟨l1, l2⟩ := rd_block_len (v := v.1) (q := v.2) (by omega) e
              have hge := rd_block_ge (v := v.1) (q := v.2) e
              refine r_Mod_readStream_206 l (d + 4) m _ _ _ _ _ g.1 ⟨fun e => absurd k1 e, fun _ => zi_mono (c_tooMuch (fs := fs) (out := v.1.2) l (d + 4) g (by omega) k6.1 af4.1) ?_⟩
              rintro r I5 ⟨rfl, rfl⟩
              by_cases full : 2000 < fs.length + v.1.2.length
              · rw [if_pos full] at q
                rw [if_pos full]
                refine ⟨_, rfl, fun x => absurd x (by decide), fun _ => r_Mod_readStream_226 l (d + 4) m _ _ _ _ _ _ m g.1 g.1 ?_⟩
                rw [zx_u2_s]
                refine ⟨fun _ => r_Mod_readStream_252 l (d + 4) m _ _ _ _ _ m (r_Mod_readStream_253 l (d + 4) m _ _ _ _ _ _ m g.1 g.1 (zi_mono (c_fi l (d + 3) g.1) ?_)), fun x => absurd x (by decide)⟩
                rintro r I6 ⟨rfl, (⟨h, _⟩ | ⟨_, rfl⟩)⟩
                · exact absurd rfl h
                · refine ⟨rfl, st262 _ _ _ _ c (Or.inr (by rw [zx_u2_s]; decide)) (q _ _ ⟨⟨_, rfl⟩, Or.inl ⟨rfl, zx_u2_s, by rw [zx_u2_k (by omega)]; exact k1⟩⟩ (zg_trans z4F (zg_fld (by unfold ms_F; simp))))⟩
              · rw [if_neg full] at q
                rw [if_neg full]
                have z5 : zg m [0] [] I5 (zx_u2 I5 m 0 0) := zg_fld (by simp)
                have z5F : zg m ms_F (ms_S m) I (zx_u2 I5 m 0 0) := zg_trans z4F (zg_fld (by unfold ms_F; simp))
                have k65 : aL (zx_u2 I5 m 0 0) m 12 (m + 4) v.1.2 := k6.keepg z5 (by simp) (by omega) (by simp)
                have k45 : a_MB (zx_u2 I5 m 0 0) m v.1.1 := k4.keep z5 (by simp) (by simp)
                have hch := k5.ch
                refine ⟨_, rfl, fun _ => r_Mod_readStream_226 l (d + 4) m _ _ _ _ _ _ m g.1 g.1 ?_, fun x => absurd rfl x⟩
                rw [zx_u2_s]
                refine ⟨fun x => absurd rfl x, fun _ => zi_mono (c_mcheckOf (f := fun k => v.1.2.getD k 0) (n := v.1.2.length) l (d + 3) g (by omega) k65.1 k65.2 (fun k hk => l2 _ (getD_mem hk))) ?_⟩
                rintro r I6 ⟨rfl, rfl⟩
                have hcr : cr_fn (fun k => v.1.2.getD k 0) 0 v.1.2.length 65535 < 65536 := cr_fn_lt _ _ _ (by decide) (fun k _ h => l2 _ (getD_mem (by omega)))
                refine ⟨_, rfl, ?_⟩
                rw [k45.ch, nI_eq (by omega) (by omega)]
                refine ⟨fun w => ?_, fun w => ?_⟩
                · rw [if_pos w] at q
                  refine r_Mod_readStream_252 l (d + 4) m _ _ _ _ _ m (r_Mod_readStream_253 l (d + 4) m _ _ _ _ _ _ m g.1 g.1 (zi_mono (c_fi l (d + 3) g.1) ?_))
                  rintro r I7 ⟨rfl, (⟨h, _⟩ | ⟨_, rfl⟩)⟩
                  · exact absurd rfl h
                  · have h87 : zx_u2 I5 m 0 0 m 8 = 0 := by rw [zx_u2_k (by omega)]; exact k1
                    refine ⟨rfl, r_Mod_readStream_262 l (d + 4) m _ _ _ _ _ g.1 ⟨fun e => absurd h87 e, fun _ => ⟨fun e => absurd zx_u2_s e, fun _ => zi_mono (c_maddBytes (fs := fs) (out := v.1.2) l (d + 4) g (by omega) (by omega) k65 (af4.keepg z5 (by simp) (by omega) (by simp))) ?_⟩⟩⟩
                    rintro r I8 ⟨rfl, u1, u2⟩
                    have k48 : a_MB I8 m v.1.1 := k45.keep u2 (by simp) (by simp)
                    refine ⟨rfl, ?_⟩
                    rw [k48.ch]
                    refine zi_mono (c_addTotal l (d + 4) ht) ?_
                    rintro r I9 ⟨rfl, rfl⟩
                    refine ⟨_, rfl, r_Mod_readStream_292 l (d + 4) m _ _ _ _ _ ?_⟩
                    rw [nI_1]
                    have z9F : zg m ms_F (ms_S m) I I9 := zg_trans z5F (ms_F_of (by unfold ms_F; simp) (by unfold ms_S; simp) u2)
                    refine ih (k + 1) _ (c + 1) v.2 (fs ++ v.1.2) v.1.1 _ I9 (by omega) (by omega) (by omega) k3 (tt_lt ht hch) (a.keepg z9F (by unfold ms_F; simp) (by unfold ms_S; simp)) (by rw [u2.1 0 (by simp), zx_u2_s]) (by rw [u2.1 7 (by simp), zx_u2_k (by omega)]; exact k2) (by rw [u2.1 8 (by simp)]; exact h87) u1 (by rw [List.length_append]; omega) (fun _ => ⟨k48, k5⟩) (fun r I10 y1 y2 => q r I10 ?_ (zg_trans z9F y2))
                    exact y1
                · rw [if_neg w] at q
                  have h87 : zx_u2 I5 m 0 0 m 8 = 0 := by rw [zx_u2_k (by omega)]; exact k1
                  have h207 : zx_u2 I5 m 0 0 m 20 = nI (p + 24) := by rw [zx_u2_k (by omega)]; exact h20
                  refine r_Mod_readStream_253 l (d + 4) m _ _ _ _ _ _ m g.1 g.1 ?_
                  rw [h207]
                  refine zi_mono (c_fi l (d + 3) g.1) ?_
                  rintro r I7 ⟨rfl, (⟨_, _, f1, f2, f3, f4⟩ | ⟨h, _⟩)⟩
                  · have n7 : ¬ I7 m 8 = 0 := by rw [f1]; decide
                    exact ⟨rfl, st262 I7 _ _ _ c (Or.inl n7) (q _ I7 ⟨⟨_, rfl⟩, Or.inr ⟨by dsimp only; decide, by dsimp only; decide, by rw [f4.1 0 (by simp), zx_u2_s], f1, f2⟩⟩ (zg_trans z5F (ms_F_of (by unfold ms_F; simp) (by simp) f4)))⟩
                  · exact absurd ⟨by decide, h87⟩ h
        · rw [show (3227993 : Int32) = nI 3227993 from rfl, nI_eq (by omega) (by omega)] at y
          rw [if_neg y] at q
          refine r_Mod_readStream_185 l (d + 4) m _ _ _ _ _ _ m g.1 g.1 (zi_mono (c_fi l (d + 3) g.1) ?_)
          rintro r I3 ⟨rfl, (⟨_, _, f1, f2, f3, f4⟩ | ⟨h, _⟩)⟩
          · have n3 : ¬ I3 m 8 = 0 := by rw [f1]; decide
            exact ⟨rfl, fun _ => st206 I3 _ _ _ c n3 (q _ I3 ⟨⟨_, rfl⟩, Or.inr ⟨by dsimp only; decide, by dsimp only; decide, by rw [f4.1 0 (by simp)]; exact h02, f1, f2⟩⟩ (zg_trans zF (ms_F_of (by unfold ms_F; simp) (by simp) f4))), fun e => absurd e n3⟩
          · exact absurd ⟨by decide, e4⟩ h
      · -- the end
        rw [show (1536581 : Int32) = nI 1536581 from rfl, nI_eq (by omega) (by omega)] at x
        rw [if_pos x] at q
        rw [e3]
        have a3 := a.keepg z (by simp) (by simp)
        have b16 := bn_lt bs (p + 24) (k := 16) (by decide)
        refine zi_mono (c_mt (k := 16) (p := p + 24) l (d + 3) g a3 e3 e1 e4 (by decide)) ?_
        rintro r I3 ⟨⟨w, rfl, hw⟩, z3⟩
        have z3F := zg_trans zF (ms_F_of (by unfold ms_F; simp) (by simp) z3)
        have h03 : I3 m 0 = 0 := by rw [z3.1 0 (by simp)]; exact h02
        rcases hw with ⟨f1, rfl, f3, f4⟩ | ⟨f1, rfl, f3, f4, f5⟩
        · rw [if_pos f1] at q
          refine ⟨_, rfl, fun y => ?_, fun y => ?_⟩
          · rw [nI_eq (by omega) (by omega)] at y
            rw [if_pos y] at q
            refine r_Mod_readStream_146 l (d + 4) m _ _ _ _ _ _ m g.1 g.1 (zi_mono (c_fi l (d + 3) g.1) ?_)
            rintro r I4 ⟨rfl, (⟨h, _⟩ | ⟨_, rfl⟩)⟩
            · exact absurd rfl h
            · have e7 : (I4 m 7 + 7) / 8 * 8 = nI ((p + 24 + 16 + 7) / 8 * 8) := by
                rw [f3, show (7 : Int32) = nI 7 from rfl, nI_add, show nI (p + 24 + 16 + 7) / 8 = nI ((p + 24 + 16 + 7) / 8) from pk_div (d := 8) (by omega) (by omega) (by omega), show (8 : Int32) = nI 8 from rfl, pk_mul]
              rw [e7]
              have z4 : zg m [7] [] I4 (zx_u2 I4 m 7 (nI ((p + 24 + 16 + 7) / 8 * 8))) := zg_fld (by simp)
              have zz : zg m [7, 8, 9] [] I (zx_u2 I4 m 7 (nI ((p + 24 + 16 + 7) / 8 * 8))) := zg_trans (zg_trans (zg_mono z (by simp) (by simp)) (zg_mono z3 (by simp) (by simp))) (zg_mono z4 (by simp) (by simp))
              refine ⟨rfl, q _ _ ⟨c, rfl, by omega, rfl, by rw [zx_u2_k (by omega)]; exact h03, by rw [zx_u2_k (by omega)]; exact f4, zx_u2_s, by dsimp only; omega, af.keepg zz (by simp) (by omega) (by simp), hfs, fun h => ?_⟩ (ms_F_of (by unfold ms_F; simp) (by simp) zz)⟩
              obtain ⟨b1, b2⟩ := hB h
              exact ⟨b1.keep zz (by simp) (by simp), b2⟩
          · rw [nI_eq (by omega) (by omega)] at y
            rw [if_neg y] at q
            refine r_Mod_readStream_146 l (d + 4) m _ _ _ _ _ _ m g.1 g.1 (zi_mono (c_fi l (d + 3) g.1) ?_)
            rintro r I4 ⟨rfl, (⟨_, _, g1, g2, g3, g4⟩ | ⟨h, _⟩)⟩
            · exact ⟨rfl, q _ _ ⟨⟨_, rfl⟩, Or.inr ⟨by dsimp only; decide, by dsimp only; decide, by rw [zx_u2_k (by omega), g4.1 0 (by simp)]; exact h03, by rw [zx_u2_k (by omega)]; exact g1, by rw [zx_u2_k (by omega)]; exact g2⟩⟩ (zg_trans (zg_trans z3F (ms_F_of (by unfold ms_F; simp) (by simp) g4)) (zg_fld (by unfold ms_F; simp)))⟩
            · exact absurd ⟨by decide, f4⟩ h
        · rw [if_neg f1] at q
          have n3 : ¬ I3 m 8 = 0 := by rw [f4]; decide
          have fin : ∀ y0, zi_X l (zx_rm (d + 5) 0 0) M_Mod_readStream K RJ Q 146 [(0, .ref m), (1, .int (nI (p + 24))), (2, .int (nI lv)), (3, .int (nI tot)), (4, .int (nI c)), (5, .int (nI (bt_num bs p 24)))] [.int y0, .ref m] I3 := fun y0 => by
            refine r_Mod_readStream_146 l (d + 4) m _ _ _ _ _ _ m g.1 g.1 (zi_mono (c_fi l (d + 3) g.1) ?_)
            rintro r I4 ⟨rfl, (⟨_, h, _⟩ | ⟨_, rfl⟩)⟩
            · exact absurd h n3
            · exact ⟨rfl, q _ _ ⟨⟨_, rfl⟩, Or.inr ⟨by dsimp only; decide, by dsimp only; decide, by rw [zx_u2_k (by omega)]; exact h03, by rw [zx_u2_k (by omega)]; exact f4, by rw [zx_u2_k (by omega)]; exact f5⟩⟩ (zg_trans z3F (zg_fld (by unfold ms_F; simp)))⟩
          exact ⟨_, rfl, fun _ => fin _, fun _ => fin _⟩
    · rw [if_neg e1] at q
      have n2 : ¬ I2 m 8 = 0 := by rw [e4]; decide
      have fin := q (some (.int (nI c))) I2 ⟨⟨_, rfl⟩, Or.inr ⟨by dsimp only; decide, by dsimp only; decide, h02, e4, e5⟩⟩ zF
      exact ⟨_, rfl, fun _ => r_Mod_readStream_172 l (d + 4) m _ _ _ _ _ ⟨fun _ => st185 I2 _ _ _ _ c n2 fin, fun _ => st185 I2 _ _ _ _ c n2 fin⟩, fun e => absurd e n2⟩
theorem c_mreadStream (l : Launch) (d : Nat) {I : zi_I} {n0 : Nat} {fs : List Nat} {B : bk_B} (g : g_Mod K RJ m) (a : a_In I m bs) (h0 : I m 0 = 0) (h7 : I m 7 = nI p) (hp : p ≤ 8 * bs.length) (h8 : I m 8 = 0) (af : aL I m 5 (m + 3) fs) (hfs : fs.length ≤ 2000) (hB : 0 < n0 → a_MB I m B ∧ bk_ok B) :
    zi_C l (zx_rm (d + 5) 0 0) M_Mod_readStream [.ref m] K RJ I (fun r I2 => mst_post (rd_stream bs fs n0 B p) (8 * bs.length) m n0 r I2 ∧ zg m ms_F (ms_S m) I I2) := by
  have hbl := a.1
  have b16 := bn_lt bs p (k := 16) (by decide)
  -- with a fault to the end
  have st : ∀ (I2 : zi_I) (x1 x2 : Int32) (e : Int32 × Nat), rd_stream bs fs n0 B p = .inl e → e.1 ≠ 1 → e.1 ≠ 0 → I2 m 0 = 0 → I2 m 8 = e.1 → I2 m 9 = nI e.2 → zg m ms_F (ms_S m) I I2 → zi_X l (zx_rm (d + 5) 0 0) M_Mod_readStream K RJ (fun r I2 => mst_post (rd_stream bs fs n0 B p) (8 * bs.length) m n0 r I2 ∧ zg m ms_F (ms_S m) I I2) 82 [(0, .ref m), (1, .int x1), (2, .int x2), (3, .int 0), (4, .int 0)] [] I2 := fun I2 x1 x2 e he h1 h2 h3 h4 h5 h6 => by
    refine r_Mod_readStream_82 l (d + 4) m _ _ _ _ g.1 ⟨fun _ => r_Mod_readStream_295 l (d + 4) m _ _ _ _ ⟨?_, h6⟩, fun x => absurd (h4.symm.trans x) h2⟩
    rw [he]
    exact ⟨⟨_, rfl⟩, Or.inr ⟨h1, h2, h3, h4, h5⟩⟩
  have st71 : ∀ (I2 : zi_I) (x1 x2 y0 : Int32) (e : Int32 × Nat), rd_stream bs fs n0 B p = .inl e → e.1 ≠ 1 → e.1 ≠ 0 → I2 m 0 = 0 → I2 m 8 = e.1 → I2 m 9 = nI e.2 → zg m ms_F (ms_S m) I I2 → zi_X l (zx_rm (d + 5) 0 0) M_Mod_readStream K RJ (fun r I2 => mst_post (rd_stream bs fs n0 B p) (8 * bs.length) m n0 r I2 ∧ zg m ms_F (ms_S m) I I2) 71 [(0, .ref m), (1, .int x1), (2, .int x2)] [.int y0, .ref m] I2 := fun I2 x1 x2 y0 e he h1 h2 h3 h4 h5 h6 => by
    refine r_Mod_readStream_71 l (d + 4) m _ _ _ m g.1 (zi_mono (c_fi l (d + 3) g.1) ?_)
    rintro r I3 ⟨rfl, (⟨_, h, _⟩ | ⟨_, rfl⟩)⟩
    · exact absurd (h4.symm.trans h) h2
    · exact ⟨rfl, st I3 _ _ e he h1 h2 h3 h4 h5 h6⟩
  have st53 : ∀ (I2 : zi_I) (x1 y0 : Int32) (e : Int32 × Nat), rd_stream bs fs n0 B p = .inl e → e.1 ≠ 1 → e.1 ≠ 0 → I2 m 0 = 0 → I2 m 8 = e.1 → I2 m 9 = nI e.2 → zg m ms_F (ms_S m) I I2 → zi_X l (zx_rm (d + 5) 0 0) M_Mod_readStream K RJ (fun r I2 => mst_post (rd_stream bs fs n0 B p) (8 * bs.length) m n0 r I2 ∧ zg m ms_F (ms_S m) I I2) 53 [(0, .ref m), (1, .int x1)] [.int y0] I2 := fun I2 x1 y0 e he h1 h2 h3 h4 h5 h6 => by
    have f := fun y => st71 I2 x1 y0 y e he h1 h2 h3 h4 h5 h6
    exact r_Mod_readStream_53 l (d + 4) m _ _ ⟨fun _ => r_Mod_readStream_66 l (d + 4) m _ _ m (f _), fun _ => ⟨fun _ => f _, fun _ => r_Mod_readStream_66 l (d + 4) m _ _ m (f _)⟩⟩
  refine zi_of (by decide) (fun α => Nat.le_of_ble_eq_true rfl) (r_Mod_readStream_0 l (d + 4) m g.1 ?_)
  rw [h7]
  refine zi_mono (c_mt (k := 16) l (d + 3) g a h7 hp h8 (by decide)) ?_
  rintro r I2 ⟨⟨v, rfl, hv⟩, z⟩
  have zF : zg m ms_F (ms_S m) I I2 := ms_F_of (by unfold ms_F; simp) (by simp) z
  have h02 : I2 m 0 = 0 := by rw [z.1 0 (by simp)]; exact h0
  have hst : ∀ e, rd_head bs p = .inl e → rd_stream bs fs n0 B p = .inl e := fun e he => by
    unfold rd_stream
    rw [he]
  refine ⟨_, rfl, ?_⟩
  rcases hv with ⟨e1, rfl, e3, e4⟩ | ⟨e1, rfl, e3, e4, e5⟩
  · rw [show (21314 : Int32) = nI 21314 from rfl, nI_eq (by omega) (by omega)]
    refine ⟨fun x => ?_, fun x => ?_⟩
    · refine r_Mod_readStream_24 l (d + 4) m _ _ m g.1 g.1 (zi_mono (c_fi l (d + 3) g.1) ?_)
      rintro r I3 ⟨rfl, (⟨h, _⟩ | ⟨_, rfl⟩)⟩
      · exact absurd rfl h
      · refine ⟨rfl, fun c => absurd e4 c, fun _ => ?_⟩
        rw [e3]
        have a3 := a.keepg z (by simp) (by simp)
        have b8 := bn_lt bs (p + 16) (k := 8) (by decide)
        refine zi_mono (c_mt (k := 8) (p := p + 16) l (d + 3) g a3 e3 e1 e4 (by decide)) ?_
        rintro r I4 ⟨⟨w, rfl, hw⟩, z4⟩
        have z4F := zg_trans zF (ms_F_of (by unfold ms_F; simp) (by simp) z4)
        have h04 : I4 m 0 = 0 := by rw [z4.1 0 (by simp)]; exact h02
        refine ⟨_, rfl, ?_⟩
        rcases hw with ⟨f1, rfl, f3, f4⟩ | ⟨f1, rfl, f3, f4, f5⟩
        · have bad : (bt_num bs (p + 16) 8 = 0 ∨ 8 < bt_num bs (p + 16) 8) → zi_X l (zx_rm (d + 5) 0 0) M_Mod_readStream K RJ (fun r I2 => mst_post (rd_stream bs fs n0 B p) (8 * bs.length) m n0 r I2 ∧ zg m ms_F (ms_S m) I I2) 66 [(0, .ref m), (1, .int (nI (p + 16))), (2, .int (nI (bt_num bs (p + 16) 8)))] [.ref m] I4 := fun h => by
            have he : rd_head bs p = .inl (-3, p + 16) := by
              unfold rd_head
              rw [if_pos e1, if_pos x, if_pos f1, if_pos h]
            refine r_Mod_readStream_66 l (d + 4) m _ _ m (r_Mod_readStream_71 l (d + 4) m _ _ _ m g.1 (zi_mono (c_fi l (d + 3) g.1) ?_))
            rintro r I5 ⟨rfl, (⟨_, _, k1, k2, k3, k4⟩ | ⟨h, _⟩)⟩
            · exact ⟨rfl, st I5 _ _ _ (hst _ he) (by dsimp only; decide) (by dsimp only; decide) (by rw [k4.1 0 (by simp)]; exact h04) k1 k2 (zg_trans z4F (ms_F_of (by unfold ms_F; simp) (by simp) k4))⟩
            · exact absurd ⟨by decide, f4⟩ h
          refine r_Mod_readStream_53 l (d + 4) m _ _ ⟨fun y => ?_, fun y => ⟨fun y2 => ?_, fun y2 => ?_⟩⟩
          · rw [show (1 : Int32) = nI 1 from rfl, nI_ltI (by omega) (by omega)] at y
            exact bad (Or.inl (by omega))
          · rw [show (1 : Int32) = nI 1 from rfl, nI_ltI (by omega) (by omega)] at y
            rw [show (8 : Int32) = nI 8 from rfl, nI_leI (by omega) (by omega)] at y2
            have he : rd_head bs p = .inr (bt_num bs (p + 16) 8, p + 16 + 8) := by
              unfold rd_head
              rw [if_pos e1, if_pos x, if_pos f1, if_neg (by omega)]
            refine r_Mod_readStream_71 l (d + 4) m _ _ _ m g.1 (zi_mono (c_fi l (d + 3) g.1) ?_)
            rintro r I5 ⟨rfl, (⟨h, _⟩ | ⟨_, rfl⟩)⟩
            · exact absurd rfl h
            · have zz : zg m [7, 8, 9] [] I I5 := zg_trans z z4
              refine ⟨rfl, t_mst82 (bs := bs) (lv := bt_num bs (p + 16) 8) (n0 := n0) l d g y2 3200 0 0 0 (p + 16 + 8) fs B _ I5 (by omega) (by omega) rfl f1 (by decide) (a.keepg zz (by simp) (by simp)) h04 f3 f4 (af.keepg zz (by simp) (by omega) (by simp)) hfs (fun h => ?_) (fun r I6 y1 y3 => ⟨?_, zg_trans z4F y3⟩)⟩
              · obtain ⟨b1, b2⟩ := hB (by omega)
                exact ⟨b1.keep zz (by simp) (by simp), b2⟩
              · rw [show rd_stream bs fs n0 B p = rd_str bs (bt_num bs (p + 16) 8) 3200 0 fs n0 B (p + 16 + 8) by unfold rd_stream; rw [he]]
                exact y1
          · rw [show (8 : Int32) = nI 8 from rfl, nI_leI (by omega) (by omega)] at y2
            exact bad (Or.inr (by omega))
        · have he : rd_head bs p = .inl (-2, p + 16) := by
            unfold rd_head
            rw [if_pos e1, if_pos x, if_neg f1]
          exact st53 I4 _ _ _ (hst _ he) (by dsimp only; decide) (by dsimp only; decide) h04 f4 f5 z4F
    · have he : rd_head bs p = .inl (-3, p) := by
        unfold rd_head
        rw [if_pos e1, if_neg x]
      refine r_Mod_readStream_24 l (d + 4) m _ _ m g.1 g.1 (zi_mono (c_fi l (d + 3) g.1) ?_)
      rintro r I3 ⟨rfl, (⟨_, _, k1, k2, k3, k4⟩ | ⟨h, _⟩)⟩
      · have n3 : ¬ I3 m 8 = 0 := by rw [k1]; decide
        exact ⟨rfl, fun _ => st53 I3 _ _ _ (hst _ he) (by dsimp only; decide) (by dsimp only; decide) (by rw [k4.1 0 (by simp)]; exact h02) k1 k2 (zg_trans zF (ms_F_of (by unfold ms_F; simp) (by simp) k4)), fun c => absurd c n3⟩
      · exact absurd ⟨by decide, e4⟩ h
  · have he : rd_head bs p = .inl (-2, p) := by
      unfold rd_head
      rw [if_neg e1]
    have n2 : ¬ I2 m 8 = 0 := by rw [e4]; decide
    have fin : ∀ y0, zi_X l (zx_rm (d + 5) 0 0) M_Mod_readStream K RJ (fun r I2 => mst_post (rd_stream bs fs n0 B p) (8 * bs.length) m n0 r I2 ∧ zg m ms_F (ms_S m) I I2) 24 [(0, .ref m), (1, .int (nI p))] [.int y0, .ref m] I2 := fun y0 => by
      refine r_Mod_readStream_24 l (d + 4) m _ _ m g.1 g.1 (zi_mono (c_fi l (d + 3) g.1) ?_)
      rintro r I3 ⟨rfl, (⟨_, h, _⟩ | ⟨_, rfl⟩)⟩
      · exact absurd h n2
      · exact ⟨rfl, fun _ => st53 I3 _ _ _ (hst _ he) (by dsimp only; decide) (by dsimp only; decide) h02 e4 e5 zF, fun c => absurd c n2⟩
    exact ⟨fun _ => fin _, fun _ => fin _⟩
end MST
