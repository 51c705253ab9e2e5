/-! How many bits a block has. -/
theorem ws_n_picks_le (f : Nat → Nat) (T : Nat) : ∀ (j : Nat) (s : ws_S) (xs : List Nat) (i : Nat), xs.length = T → (∀ k, i ≤ k → k < i + j → f k ∈ xs) → ws_n (sp_picks f s xs i j) ≤ ws_n s + j * T
  | 0, s, xs, i, _, _ => by simp [sp_picks]
  | j + 1, s, xs, i, hT, h => by
    have h0 := ix_lt (h i (Nat.le_refl _) (by omega))
    have ih := ws_n_picks_le f T j (sp_pick s (ix (f i) xs)) (mv_to xs (ix (f i) xs)) (i + 1) (by rw [mv_len h0]; exact hT) (fun k h1 h2 => mv_mem2 h0 (h k (by omega) (by omega)))
    rw [ws_n_pick] at ih
    show ws_n (sp_picks f (sp_pick s (ix (f i) xs)) (mv_to xs (ix (f i) xs)) (i + 1) j) ≤ _
    rw [Nat.succ_mul]
    omega
theorem ws_n_lens_le (f : Nat → Nat) : ∀ (j : Nat) (s : ws_S) (w i : Nat), 1 ≤ w → w ≤ 9 → (∀ k, i ≤ k → k < i + j → 1 ≤ f k ∧ f k ≤ 9) → ws_n (sp_lens f s w i j) ≤ ws_n s + 17 * j
  | 0, s, w, i, _, _, _ => by simp [sp_lens]
  | j + 1, s, w, i, h1, h2, h => by
    have h0 := h i (Nat.le_refl _) (by omega)
    have ih := ws_n_lens_le f j (sp_len s w (f i)) (f i) (i + 1) h0.1 h0.2 (fun k h3 h4 => h k (by omega) (by omega))
    rw [ws_n_len] at ih
    show ws_n (sp_lens f (sp_len s w (f i)) (f i) (i + 1) j) ≤ _
    omega
theorem ws_n_tab_le (f : Nat → Nat) (n : Nat) (s : ws_S) (h : ∀ k, k < n + 1 → 1 ≤ f k ∧ f k ≤ 9) : ws_n (sp_tab s f (n + 1)) ≤ ws_n s + 6 + 17 * n := by
  have h0 := h 0 (by omega)
  have ih := ws_n_lens_le f n (sp_len (ws_put s (f 0) 5) (f 0) (f 0)) (f 0) 1 h0.1 h0.2 (fun k h3 h4 => h k (by omega))
  rw [ws_n_len, ws_n_put] at ih
  show ws_n (sp_lens f (sp_len (ws_put s (f 0) 5) (f 0) (f 0)) (f 0) (0 + 1) n) ≤ _
  rw [Nat.zero_add]
  omega
theorem ws_n_tabs_le (ln : Nat → Nat → Nat) (n : Nat) : ∀ (j t : Nat) (s : ws_S), (∀ u, t ≤ u → u < t + j → ∀ k, k < n + 1 → 1 ≤ ln u k ∧ ln u k ≤ 9) → ws_n (sp_tabs ln (n + 1) s t j) ≤ ws_n s + j * (6 + 17 * n)
  | 0, _, _, _ => by simp [sp_tabs]
  | j + 1, t, s, h => by
    have h1 := ws_n_tabs_le ln n j (t + 1) (sp_tab s (ln t) (n + 1)) (fun u h1 h2 => h u (by omega) (by omega))
    have h2 := ws_n_tab_le (ln t) n s (h t (Nat.le_refl _) (by omega))
    show ws_n (sp_tabs ln (n + 1) (sp_tab s (ln t) (n + 1)) (t + 1) j) ≤ _
    rw [Nat.succ_mul]
    omega
theorem ws_n_syms_le (B : bk_B) : ∀ (j k : Nat) (s : ws_S), (∀ i, k ≤ i → i < k + j → B.ln (B.pk (i / 8)) (B.sy i) ≤ 9) → ws_n (sp_syms B s k j) ≤ ws_n s + 9 * j
  | 0, _, _, _ => by simp [sp_syms]
  | j + 1, k, s, h => by
    have h0 := h k (Nat.le_refl _) (by omega)
    have h1 := ws_n_syms_le B j (k + 1) (ws_put s (cd_c (B.ln (B.pk (k / 8))) (B.ks.length + 2) (B.sy k)) (B.ln (B.pk (k / 8)) (B.sy k))) (fun i h1 h2 => h i (by omega) (by omega))
    rw [ws_n_put] at h1
    show ws_n (sp_syms B (ws_put s (cd_c (B.ln (B.pk (k / 8))) (B.ks.length + 2) (B.sy k)) (B.ln (B.pk (k / 8)) (B.sy k))) (k + 1) j) ≤ _
    omega
theorem kf_len_s (u : Nat → Bool) (n : Nat) : (kf u (n + 1)).length = (kf u n).length + (if u n = true then 1 else 0) := by
  rw [kf_s]
  split <;> simp
theorem ws_n_mapsL_eq (u : Nat → Bool) : ∀ (j : Nat) (s : ws_S) (i : Nat), ws_n (sp_mapsL u s i j) + 16 * (kf (fun g => an u (16 * g) 16) i).length = ws_n s + 16 * (kf (fun g => an u (16 * g) 16) (i + j)).length
  | 0, s, i => rfl
  | j + 1, s, i => by
    have ih := ws_n_mapsL_eq u j (if an u (16 * i) 16 = true then ws_put s (mp (fun k => u (16 * i + k)) 16) 16 else s) (i + 1)
    rw [kf_len_s, show i + 1 + j = i + (j + 1) by omega] at ih
    show ws_n (sp_mapsL u (if an u (16 * i) 16 = true then ws_put s (mp (fun k => u (16 * i + k)) 16) 16 else s) (i + 1) j) + _ = _
    by_cases h : an u (16 * i) 16 = true
    · simp only [if_pos h, ws_n_put] at ih ⊢
      omega
    · simp only [if_neg h] at ih ⊢
      omega
theorem kf_an_le (ks : List Nat) : ∀ i, (kf (fun g => an (uu ks i) (16 * g) 16) 16).length ≤ i
  | 0 => by
    have : kf (fun g => an (uu ks 0) (16 * g) 16) 16 = [] := by
      unfold kf
      rw [List.filter_eq_nil_iff]
      intro a _ h
      obtain ⟨j, _, h2⟩ := an_iff.mp h
      simp [uu] at h2
    rw [this]
    exact Nat.le_refl _
  | i + 1 => by
    have h1 := kf_an_le ks i
    have h2 := kf_step (fun g => an (uu ks i) (16 * g) 16) (ks.getD i 0 / 16) 16
    have e : kf (fun g => an (uu ks (i + 1)) (16 * g) 16) 16 = kf (fun g => an (uu ks i) (16 * g) 16 || decide (g = ks.getD i 0 / 16)) 16 := kf_congr (fun g _ => an_step)
    rw [e]
    split at h2 <;> omega
theorem ws_n_maps_le (ks : List Nat) (s : ws_S) : ws_n (sp_maps (uu ks ks.length) s) ≤ ws_n s + 16 + 16 * min 16 ks.length := by
  have h := ws_n_mapsL_eq (uu ks ks.length) 16 (ws_put s (mp (fun i => an (uu ks ks.length) (16 * i) 16) 16) 16) 0
  have h1 := kf_an_le ks ks.length
  have h2 := kf_le (fun g => an (uu ks ks.length) (16 * g) 16) 16
  rw [ws_n_put, Nat.zero_add] at h
  unfold sp_maps
  omega
def bb (k y G T : Nat) : Nat := 71 + 16 * min 16 k + G * T + T * (6 + 17 * (k + 1)) + 9 * y
theorem ws_n_block_le {B : bk_B} {s : ws_S} (h : bk_ok B) (h9 : ∀ t, t < B.T → ∀ k, k < B.ks.length + 2 → B.ln t k ≤ 9) : ws_n (sp_block B s) ≤ ws_n s + bb B.ks.length B.sl.length B.G B.T := by
  have yG := h.yG
  have e1 := ws_n_syms_le B B.sl.length 0 (sp_tabs B.ln (B.ks.length + 2) (sp_pks B s) 0 B.T) (fun i _ hi => h9 _ (h.pk _ (by omega)) _ (h.slb _ (by omega)))
  have e2 := ws_n_tabs_le B.ln (B.ks.length + 1) B.T 0 (sp_pks B s) (fun u _ hu k hk => ⟨(h.ln u (by omega) k (by omega)).1, h9 u (by omega) k (by omega)⟩)
  have e2 : ws_n (sp_tabs B.ln (B.ks.length + 2) (sp_pks B s) 0 B.T) ≤ ws_n (sp_pks B s) + B.T * (6 + 17 * (B.ks.length + 1)) := e2
  have e3 := ws_n_picks_le B.pk B.T B.G (sp_mid B s) (List.range B.T) 0 List.length_range (fun k _ hk => List.mem_range.mpr (h.pk k (by omega)))
  have e4 := ws_n_maps_le B.ks (sp_head B s)
  have e5 : ws_n (sp_mid B s) = ws_n (sp_maps (uu B.ks B.ks.length) (sp_head B s)) + 3 + 6 := by
    unfold sp_mid
    rw [ws_n_put, ws_n_put]
  have e6 : ws_n (sp_head B s) = ws_n s + 24 + 16 + 6 := by
    unfold sp_head
    rw [ws_n_put, ws_n_put, ws_n_put]
  have e7 : ws_n (sp_pks B s) ≤ ws_n (sp_mid B s) + B.G * B.T := e3
  have e8 : ws_n (sp_block B s) ≤ ws_n (sp_tabs B.ln (B.ks.length + 2) (sp_pks B s) 0 B.T) + 9 * B.sl.length := e1
  unfold bb
  omega
theorem sh_F_45 (f : Nat → Nat) : ∀ i, 4 * (sh_F f i).length + (if sh_p f i < 4 then sh_p f i else 0) ≤ 5 * i
  | 0 => by simp [sh_F, sh_p]
  | i + 1 => by
    have ih := sh_F_45 f i
    have hl := sh_F_len f i
    have hp := sh_p_s f i
    rw [hl]
    unfold sh_cost
    split at hp <;> split at ih <;> split <;> (try split) <;> omega
theorem sh_go_stop {f : Nat → Nat} {lim : Nat} : ∀ j i, sh_go f lim j i < i + j → lim < (sh_F f (sh_go f lim j i + 1)).length
  | 0, i, h => by
    have : sh_go f lim 0 i = i := rfl
    omega
  | j + 1, i, h => by
    have e := sh_go_s f lim j i
    by_cases c : (sh_F f (i + 1)).length ≤ lim
    · rw [if_pos c] at e
      rw [e] at h ⊢
      exact sh_go_stop j (i + 1) (by omega)
    · rw [if_neg c] at e
      rw [e]
      omega
theorem bb_mono {k y G T a : Nat} (h1 : k ≤ a) (h2 : y ≤ a + 1) (h3 : G = (y + 7) / 8) (h4 : T = if G ≤ 4 then 2 else 3) : bb k y G T ≤ if a < 32 then 126 + 16 * min 16 a + 2 * ((a + 8) / 8) + 43 * a else 149 + 256 + 3 * ((a + 8) / 8) + 60 * a := by
  unfold bb
  have hm : min 16 k ≤ 16 := Nat.min_le_left _ _
  by_cases c : G ≤ 4
  · rw [if_pos c] at h4
    subst h4
    split <;> omega
  · rw [if_neg c] at h4
    subst h4
    split <;> omega
theorem bk_mk_9 {f : Nat → Nat} {n : Nat} (h64 : (sh_F f n).length ≤ 64) : ∀ t, t < (bk_mk f n).T → ∀ s, s < (bk_mk f n).ks.length + 2 → (bk_mk f n).ln t s ≤ 9 := by
  have hk := bk_ks_len (f := f) (n := n)
  have hs := bk_sl_len (f := f) (n := n)
  intro t _ s hs2
  have hs3 : s < (bk_ks f n).length + 2 := hs2
  exact pc_ln_le (sy := fun k => (bk_sl f n).getD k 0) (y := (bk_sl f n).length) (T := pc_T (bk_G f n)) (r := 2) (t := t) (n := (bk_ks f n).length + 2) (by omega) (by omega) (by omega) hs3
theorem tk_bd {bs : List Nat} {fr lim : Nat} (hl1 : 1 ≤ lim) (hfr : fr < bs.length) : 1 ≤ tk bs fr lim ∧ fr + tk bs fr lim ≤ bs.length := by
  have h2 := sh_go_ge (fb bs fr) lim (bs.length - fr) 0
  obtain ⟨w, hw⟩ : ∃ w, bs.length - fr = w + 1 := ⟨bs.length - fr - 1, by omega⟩
  have h1 := sh_go_pos (f := fb bs fr) (lim := lim) (j := w) hl1
  unfold tk
  rw [hw] at h2 ⊢
  omega
theorem pk_step {bs : List Nat} {fr lv : Nat} {s : ws_S} (h1 : 1 ≤ lv) (h2 : lv ≤ 8) (hfr : fr < bs.length) (hb : ∀ k, fb bs fr k < 256) : ws_n (sp_block (bk_mk (fb bs fr) (tk bs fr (8 * lv))) s) ≤ ws_n s + 90 * tk bs fr (8 * lv) + (if fr + tk bs fr (8 * lv) < bs.length then 0 else 672) := by
  have ht := tk_bd (lim := 8 * lv) (by omega) hfr
  have hfl : (sh_F (fb bs fr) (tk bs fr (8 * lv))).length ≤ 8 * lv := sh_go_len (fb bs fr) (8 * lv) _ 0 (Nat.zero_le _)
  have hf1 : 0 < (sh_F (fb bs fr) (tk bs fr (8 * lv))).length := by
    obtain ⟨w, hw⟩ : ∃ w, tk bs fr (8 * lv) = w + 1 := ⟨tk bs fr (8 * lv) - 1, by omega⟩
    rw [hw]
    exact sh_F_pos _ w
  have ok := bk_mk_ok (f := fb bs fr) (n := tk bs fr (8 * lv)) (fun k _ => hb k) hf1 (by omega)
  have hk := bk_ks_len (f := fb bs fr) (n := tk bs fr (8 * lv))
  have hs := bk_sl_len (f := fb bs fr) (n := tk bs fr (8 * lv))
  have e := ws_n_block_le (s := s) ok (bk_mk_9 (by omega))
  have em := bb_mono (k := (bk_ks (fb bs fr) (tk bs fr (8 * lv))).length) (y := (bk_sl (fb bs fr) (tk bs fr (8 * lv))).length) (G := bk_G (fb bs fr) (tk bs fr (8 * lv))) (T := pc_T (bk_G (fb bs fr) (tk bs fr (8 * lv)))) hk hs rfl rfl
  have e2 : ws_n (sp_block (bk_mk (fb bs fr) (tk bs fr (8 * lv))) s) ≤ ws_n s + bb (bk_ks (fb bs fr) (tk bs fr (8 * lv))).length (bk_sl (fb bs fr) (tk bs fr (8 * lv))).length (bk_G (fb bs fr) (tk bs fr (8 * lv))) (pc_T (bk_G (fb bs fr) (tk bs fr (8 * lv)))) := e
  have h45 := sh_F_45 (fb bs fr) (tk bs fr (8 * lv))
  have h45b := sh_F_45 (fb bs fr) (tk bs fr (8 * lv) + 1)
  have hst : tk bs fr (8 * lv) < 0 + (bs.length - fr) → 8 * lv < (sh_F (fb bs fr) (tk bs fr (8 * lv) + 1)).length := sh_go_stop (f := fb bs fr) (lim := 8 * lv) (bs.length - fr) 0
  generalize hA : (sh_F (fb bs fr) (tk bs fr (8 * lv))).length = a at *
  generalize hA2 : (sh_F (fb bs fr) (tk bs fr (8 * lv) + 1)).length = a2 at *
  generalize bb (bk_ks (fb bs fr) (tk bs fr (8 * lv))).length (bk_sl (fb bs fr) (tk bs fr (8 * lv))).length (bk_G (fb bs fr) (tk bs fr (8 * lv))) (pc_T (bk_G (fb bs fr) (tk bs fr (8 * lv)))) = b0 at *
  generalize ws_n (sp_block (bk_mk (fb bs fr) (tk bs fr (8 * lv))) s) = w0 at *
  generalize ws_n s = w1 at *
  generalize hN : tk bs fr (8 * lv) = n at *
  have h45' : 4 * a ≤ 5 * n := by split at h45 <;> omega
  have h45b' : 4 * a2 ≤ 5 * (n + 1) := by split at h45b <;> omega
  clear h45 h45b e ok hA hA2 hN hk hs hb
  have key : fr + n < bs.length → 8 * lv < a2 := fun h => hst (by omega)
  clear hst
  obtain rfl | rfl | rfl | rfl | rfl | rfl | rfl | rfl : lv = 1 ∨ lv = 2 ∨ lv = 3 ∨ lv = 4 ∨ lv = 5 ∨ lv = 6 ∨ lv = 7 ∨ lv = 8 := by omega
  all_goals
    split
    · rename_i c
      have := key c
      split at em <;> omega
    · split at em <;> omega
