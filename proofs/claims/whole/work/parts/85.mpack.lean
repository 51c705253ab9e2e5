/-! All is packed; the reference packs. -/
theorem ws_put0 : ∀ (k : Nat) (bs : List Nat) (hv c : Nat), c + k = 8 → 0 < k → ws_put (bs, hv, c) 0 k = (bs ++ [hv * 2 ^ k], 0, 0)
  | 0, _, _, _, _, h => absurd h (by omega)
  | k + 1, bs, hv, c, h, _ => by
    show ws_put (ws_bit (bs, hv, c) (0 / 2 ^ k % 2)) 0 k = _
    rw [show (0 : Nat) / 2 ^ k % 2 = 0 by rw [Nat.zero_div]]
    by_cases e : k = 0
    · subst e
      have hw : ws_bit (bs, hv, c) 0 = (bs ++ [2 * hv + 0], 0, 0) := by
        unfold ws_bit
        rw [if_pos (by dsimp only; omega)]
      rw [hw]
      show (bs ++ [2 * hv + 0], 0, 0) = _
      rw [Nat.add_zero, Nat.mul_comm]
    · have hw : ws_bit (bs, hv, c) 0 = (bs, 2 * hv + 0, c + 1) := by
        unfold ws_bit
        rw [if_neg (by dsimp only; omega)]
      rw [hw, ws_put0 k bs _ (c + 1) (by omega) (by omega), Nat.add_zero, Nat.pow_succ, Nat.mul_comm 2 hv, Nat.mul_assoc, Nat.mul_comm 2]
theorem ws_fill_eq {s : ws_S} (h : s.2.2 < 8) : ws_fill s = if s.2.2 = 0 then s else (s.1 ++ [s.2.1 * 2 ^ (8 - s.2.2)], 0, 0) := by
  obtain ⟨bs, hv, c⟩ := s
  unfold ws_fill
  by_cases e : c = 0
  · rw [if_pos e, if_pos e]
  · dsimp only at h
    rw [if_neg e, if_neg e]
    exact ws_put0 (8 - c) bs hv c (by omega) (by omega)
theorem md_fill {I : zi_I} {m : Nat} {s : ws_S} (a : md_W I m s) : aL I m 5 (m + 3) (ws_fill s).1 := by
  obtain ⟨bs, hv, c⟩ := s
  obtain ⟨a1, a2, a3, a4, a5, a6⟩ := a
  dsimp only at a1 a2 a3 a4 a5 a6
  rw [ws_fill_eq (by dsimp only; exact a1)]
  by_cases e : c = 0
  · rw [if_pos e]
    rw [if_pos e] at a3
    exact ⟨a3, a5⟩
  · rw [if_neg e]
    rw [if_neg e] at a3
    refine ⟨?_, ?_⟩
    · show I m 5 = nI (bs ++ [_]).length
      rw [a3, List.length_append, List.length_singleton]
    · intro i hi
      have hi : i < bs.length + 1 := by simpa using hi
      show I (m + 3) i = nI ((bs ++ [hv * 2 ^ (8 - c)]).getD i 0)
      by_cases e2 : i = bs.length
      · rw [e2, getD_snoc_eq]
        exact a6 e
      · rw [getD_snoc_lt (by omega)]
        exact a5 i (by omega)
theorem ws_fill_len {s : ws_S} (h : s.2.2 < 8) : 8 * (ws_fill s).1.length ≤ ws_n s + 7 := by
  rw [ws_fill_eq h]
  unfold ws_n
  split
  · omega
  · simp
    omega
def pk_go (bs : List Nat) (lim : Nat) : Nat → Nat → ws_S → Nat → Nat → bk_B → ws_S × Nat × Nat × bk_B
  | 0, _, s, t, n, B => (s, t, n, B)
  | j + 1, fr, s, t, n, B => if fr < bs.length then pk_go bs lim j (fr + tk bs fr lim) (sp_block (bk_mk (fb bs fr) (tk bs fr lim)) s) (tt_1 t (bk_mk (fb bs fr) (tk bs fr lim)).ch) (n + 1) (bk_mk (fb bs fr) (tk bs fr lim)) else (s, t, n, B)
theorem pk_go_s (bs : List Nat) (lim j fr : Nat) (s : ws_S) (t n : Nat) (B : bk_B) : pk_go bs lim (j + 1) fr s t n B = if fr < bs.length then pk_go bs lim j (fr + tk bs fr lim) (sp_block (bk_mk (fb bs fr) (tk bs fr lim)) s) (tt_1 t (bk_mk (fb bs fr) (tk bs fr lim)).ch) (n + 1) (bk_mk (fb bs fr) (tk bs fr lim)) else (s, t, n, B) := rfl
theorem pk_go_end {bs : List Nat} {lim fr : Nat} (h : bs.length ≤ fr) : ∀ (j : Nat) (s : ws_S) (t n : Nat) (B : bk_B), pk_go bs lim j fr s t n B = (s, t, n, B)
  | 0, _, _, _, _ => rfl
  | j + 1, s, t, n, B => by rw [pk_go_s, if_neg (by omega)]
def pk_end (r : ws_S × Nat × Nat × bk_B) : st_V := ((ws_fill (ws_put (ws_put r.1 1536581 24) r.2.1 16)).1, r.2.2.1, r.2.2.2)
def pk_all (bs : List Nat) (lv : Nat) (B : bk_B) : st_V := pk_end (pk_go bs (8 * lv) 400 0 (ws_put ([83, 66], 0, 0) lv 8) 0 0 B)
/-- the bits that stand, where the next block begins at fr -/
def pk_inv (bs : List Nat) (fr : Nat) (s : ws_S) : Prop := ws_n s ≤ 24 + 90 * fr + (if fr < bs.length then 0 else 672)
theorem pk_inv_s {bs : List Nat} {fr lv : Nat} {s : ws_S} (h1 : 1 ≤ lv) (h2 : lv ≤ 8) (hfr : fr < bs.length) (hb : ∀ k, fb bs fr k < 256) (h : pk_inv bs fr s) : pk_inv bs (fr + tk bs fr (8 * lv)) (sp_block (bk_mk (fb bs fr) (tk bs fr (8 * lv))) s) := by
  have := pk_step (s := s) h1 h2 hfr hb
  unfold pk_inv at h ⊢
  rw [if_pos hfr] at h
  omega
theorem pk_ok {bs : List Nat} {fr lim : Nat} (hlim : lim ≤ 64) (hl1 : 1 ≤ lim) (hfr : fr < bs.length) (hfb : ∀ k, fb bs fr k < 256) : bk_ok (bk_mk (fb bs fr) (tk bs fr lim)) := by
  have htk := tk_bd hl1 hfr
  have hfl : (sh_F (fb bs fr) (tk bs fr lim)).length ≤ lim := sh_go_len (fb bs fr) lim _ 0 (Nat.zero_le _)
  have hf1 : 0 < (sh_F (fb bs fr) (tk bs fr lim)).length := by
    obtain ⟨w, hw⟩ : ∃ w, tk bs fr lim = w + 1 := ⟨tk bs fr lim - 1, by omega⟩
    rw [hw]
    exact sh_F_pos _ w
  exact bk_mk_ok (f := fb bs fr) (n := tk bs fr lim) (fun k _ => hfb k) hf1 (by omega)
section MPK
variable {K : zx_Kt} {RJ : zx_RJ} {m lv : Nat} {bs : List Nat}
def mp_F : List Nat := [0, 3, 5, 11, 12, 14, 17, 19, 21, 22, 25, 28, 34] ++ ml_F
def mp_S (m : Nat) : List Nat := [m + 2, m + 3, m + 4, m + 5, m + 6, m + 7, m + 8, m + 9, m + 10, m + 11, m + 12, m + 13, m + 15, m + 16, m + 17, m + 18, m + 19, m + 20]
def mpk_post (v : st_V) (m : Nat) (r : Option Value) (I I2 : zi_I) : Prop := r = some (.int (nI v.1.length)) ∧ I2 m 0 = 0 ∧ aL I2 m 3 (m + 2) v.1 ∧ v.1.length ≤ 4600 ∧ I2 m 34 = nI v.2.1 ∧ v.2.1 ≤ 400 ∧ (0 < v.2.1 → a_ML I2 m v.2.2 ∧ bk_ok v.2.2) ∧ zg m mp_F (mp_S m) I I2
theorem mpk_of {F S : List Nat} (h : ∀ j ∈ F, j ∈ mp_F) (h2 : ∀ q ∈ S, q ∈ mp_S m) {I I2 : zi_I} (z : zg m F S I I2) : zg m mp_F (mp_S m) I I2 := zg_mono z h h2
theorem t_mpk71 (l : Launch) (d : Nat) {Q : zi_Q} (g : g_Mod K RJ m) (h1 : 1 ≤ lv) (h2 : lv ≤ 8) :
    ∀ (j fr t n : Nat) (s : ws_S) (B : bk_B) (I : zi_I), bs.length ≤ fr + j → fr ≤ bs.length → pk_inv bs fr s → t < 65536 → n ≤ fr → a_In I m bs → md_W I m s → I m 0 = 0 → I m 34 = nI n → (0 < n → a_ML I m B ∧ bk_ok B) →
      (∀ r I2, mpk_post (pk_end (pk_go bs (8 * lv) j fr s t n B)) m r I I2 → Q r I2) →
      zi_X l (zx_rm (d + 4) 0 0) M_Mod_pack K RJ Q 71 [(0, .ref m), (1, .int (nI lv)), (2, .int (nI t)), (3, .int (nI fr))] [] I := by
  intro j
  induction j with
  | zero =>
    intro fr t n s B I hj hfr hp ht hn a aw h0 h34 hB q
    have hb := a.1
    obtain rfl : fr = bs.length := by omega
    unfold pk_inv at hp
    rw [if_neg (by omega)] at hp
    refine r_Mod_pack_71 l (d + 3) m _ _ _ g.1 ⟨fun _ => ?_, fun c => absurd (by rw [a.2.1]; exact nI_le (Nat.le_refl _) (by omega)) c⟩
    refine zi_mono (c_mwrite (x := 1536581) (k := 24) l (d + 3) g aw (by decide) (by decide) (by omega)) ?_
    rintro r I2 ⟨rfl, w2, f2⟩
    refine ⟨rfl, zi_mono (c_mwrite (x := t) (k := 16) l (d + 3) g w2 (by omega) (by decide) (by rw [ws_n_put]; omega)) ?_⟩
    rintro r I3 ⟨rfl, w3, f3⟩
    have hl := ws_fill_len w3.1
    rw [ws_n_put, ws_n_put] at hl
    have w3f := md_fill w3
    have e : pk_end (pk_go bs (8 * lv) 0 bs.length s t n B) = ((ws_fill (ws_put (ws_put s 1536581 24) t 16)).1, n, B) := by
      rw [pk_go_end (Nat.le_refl _)]
      unfold pk_end
      dsimp only
    rw [e] at q
    generalize (ws_fill (ws_put (ws_put s 1536581 24) t 16)).1 = X at *
    refine ⟨rfl, zi_mono (c_takeOver l (d + 3) g (by omega) w3f) ?_⟩
    rintro r I4 ⟨rfl, w4, f4⟩
    have z : zg m [3, 5, 11] [m + 2, m + 3] I I4 := zg_trans (zg_trans (zg_mono f2 (by simp) (by simp)) (zg_mono f3 (by simp) (by simp))) (zg_mono f4 (by simp) (by simp))
    refine ⟨rfl, q _ _ ⟨by rw [w4.1], by rw [z.1 0 (by simp)]; exact h0, w4, ?_, by rw [z.1 34 (by simp)]; exact h34, ?_, fun h => ?_, mpk_of (by simp [mp_F]) (by simp [mp_S]) z⟩⟩
    · show X.length ≤ 4600
      omega
    · show n ≤ 400
      omega
    · exact ⟨(hB h).1.keep z (by simp) (by simp <;> omega), (hB h).2⟩
  | succ j ih =>
    intro fr t n s B I hj hfr hp ht hn a aw h0 h34 hB q
    have hb := a.1
    by_cases c0 : fr < bs.length
    · rw [pk_go_s, if_pos c0] at q
      have hfb : ∀ k, fb bs fr k < 256 := fun k => a.lt _
      have htk := tk_bd (lim := 8 * lv) (by omega) c0
      have ok := pk_ok (lim := 8 * lv) (by omega) (by omega) c0 hfb
      have hp2 := pk_inv_s h1 h2 c0 hfb hp
      refine r_Mod_pack_71 l (d + 3) m _ _ _ g.1 ⟨fun c => ?_, fun _ => ?_⟩
      · rw [a.2.1, nI_leI (by omega) (by omega)] at c
        omega
      · rw [show (8 : Int32) * nI lv = nI (8 * lv) by rw [show (8 : Int32) = nI 8 from rfl, pk_mul]]
        refine zi_mono (c_packBlock (fr := fr) (lim := 8 * lv) (bs := bs) (s := s) l d g (by omega) (by omega) c0 a aw (by unfold pk_inv at hp2; split at hp2 <;> omega)) ?_
        rintro r I2 ⟨rfl, b2, w2, f2⟩
        refine ⟨_, rfl, ?_⟩
        rw [b2.ch]
        refine zi_mono (c_addTotal (c := (bk_mk (fb bs fr) (tk bs fr (8 * lv))).ch) l (d + 3) ht) ?_
        rintro r I3 ⟨rfl, rfl⟩
        refine ⟨_, rfl, zi_mono (c_remember l (d + 3) g ok b2) ?_⟩
        rintro r I4 ⟨rfl, l4, f4⟩
        rw [nI_add]
        have h342 : I4 m 34 = nI n := by rw [f4.1 34 (by simp [ml_F]), f2.1 34 (by simp)]; exact h34
        have f5 : zg m [34] [] I4 (zx_u2 I4 m 34 (I4 m 34 + 1)) := zg_fld (by simp)
        have z : zg m mp_F (mp_S m) I (zx_u2 I4 m 34 (I4 m 34 + 1)) := zg_trans (zg_trans (mpk_of (by simp [mp_F]) (by simp [mp_S]) f2) (mpk_of (fun j h => by simp [mp_F, h]) (by simp [mp_S]) f4)) (mpk_of (by simp [mp_F]) (by simp [mp_S]) f5)
        refine ⟨rfl, ih (fr + tk bs fr (8 * lv)) (tt_1 t (bk_mk (fb bs fr) (tk bs fr (8 * lv))).ch) (n + 1) (sp_block (bk_mk (fb bs fr) (tk bs fr (8 * lv))) s) (bk_mk (fb bs fr) (tk bs fr (8 * lv))) _ (by omega) (by omega) hp2 (tt_lt ht ok.ch) (by omega) (a.keepg z (by simp [mp_F, ml_F]) (by simp [mp_S])) ?_ ?_ ?_ (fun _ => ⟨l4.keep f5 (by simp) (by simp), ok⟩) (fun r I6 hq => q r I6 ?_)⟩
        · exact (w2.keep f4 (by simp [ml_F]) (by simp [ml_F]) (by simp)).keep f5 (by simp) (by simp) (by simp)
        · rw [f5.1 0 (by simp), f4.1 0 (by simp [ml_F]), f2.1 0 (by simp)]
          exact h0
        · rw [zx_u2_s, h342, nI_1]
        · obtain ⟨q1, q2, q3, q4, q5, q6, q7, q8⟩ := hq
          exact ⟨q1, q2, q3, q4, q5, q6, q7, zg_trans z q8⟩
    · have e : pk_go bs (8 * lv) (j + 1) fr s t n B = pk_go bs (8 * lv) j fr s t n B := by rw [pk_go_end (by omega), pk_go_end (by omega)]
      rw [e] at q
      exact ih fr t n s B I (by omega) hfr hp ht hn a aw h0 h34 hB q
theorem c_mpack (l : Launch) (d : Nat) {I : zi_I} {B : bk_B} (g : g_Mod K RJ m) (h1 : 1 ≤ lv) (h2 : lv ≤ 8) (a : a_In I m bs) :
    zi_C l (zx_rm (d + 4) 0 0) M_Mod_pack [.ref m, .int (nI lv)] K RJ I (fun r I2 => mpk_post (pk_all bs lv B) m r I I2) := by
  have hb := a.1
  refine zi_of (by decide) (fun α => Nat.le_of_ble_eq_true rfl) (r_Mod_pack_0 l (d + 3) m _ ⟨fun c => ?_, fun _ => ⟨fun _ => ?_, fun c => ?_⟩⟩)
  · rw [show (1 : Int32) = nI 1 from rfl, nI_ltI (by omega) (by omega)] at c
    omega
  · refine r_Mod_pack_17 l (d + 3) m _ _ m g.1 g.1 ⟨fun _ => ?_, fun c => absurd zx_u2_s c⟩
    have z1 : zg m [0, 5, 11] [] I (zx_u2 (zx_u2 (zx_u2 I m 0 0) m 5 0) m 11 0) := zg_trans (zg_trans (zg_fld (by simp)) (zg_fld (by simp))) (zg_fld (by simp))
    have w1 : md_W (zx_u2 (zx_u2 (zx_u2 I m 0 0) m 5 0) m 11 0) m ([], 0, 0) := ⟨(show 0 < 8 by decide), (show 0 < 2 ^ 0 by decide), by simp [zx_u2]; rfl, by simp [zx_u2]; rfl, fun i hi => absurd hi (Nat.not_lt_zero _), fun h => absurd rfl h⟩
    have v1 : (zx_u2 (zx_u2 (zx_u2 I m 0 0) m 5 0) m 11 0) m 0 = 0 := by simp [zx_u2]
    refine zi_mono (c_mwrite (x := 83) (k := 8) l (d + 3) g w1 (by decide) (by decide) (by decide)) ?_
    rintro r I2 ⟨rfl, w2, f2⟩
    refine ⟨rfl, zi_mono (c_mwrite (x := 66) (k := 8) l (d + 3) g w2 (by decide) (by decide) (by decide)) ?_⟩
    rintro r I3 ⟨rfl, w3, f3⟩
    have w3' : md_W I3 m ([83, 66], 0, 0) := w3
    refine ⟨rfl, zi_mono (c_mwrite (x := lv) (k := 8) l (d + 3) g w3' (by omega) (by decide) (by decide)) ?_⟩
    rintro r I4 ⟨rfl, w4, f4⟩
    have f5 : zg m [34] [] I4 (zx_u2 I4 m 34 0) := zg_fld (by simp)
    have z : zg m [0, 5, 11, 34] [m + 3] I (zx_u2 I4 m 34 0) := zg_trans (zg_trans (zg_trans (zg_trans (zg_mono z1 (by simp) (by simp)) (zg_mono f2 (by simp) (by simp))) (zg_mono f3 (by simp) (by simp))) (zg_mono f4 (by simp) (by simp))) (zg_mono f5 (by simp) (by simp))
    refine ⟨rfl, t_mpk71 (bs := bs) (lv := lv) l d g h1 h2 400 0 0 0 (ws_put ([83, 66], 0, 0) lv 8) B _ (by omega) (by omega) ?_ (by decide) (by decide) (a.keepg z (by simp) (by simp)) (w4.keep f5 (by simp) (by simp) (by simp)) ?_ ?_ (fun h => absurd h (by omega)) (fun r I6 hq => ?_)⟩
    · unfold pk_inv
      rw [ws_n_put]
      show 16 + 8 ≤ _
      omega
    · rw [f5.1 0 (by simp), f4.1 0 (by simp), f3.1 0 (by simp), f2.1 0 (by simp)]
      exact v1
    · rw [zx_u2_s]
      rfl
    · obtain ⟨q1, q2, q3, q4, q5, q6, q7, q8⟩ := hq
      exact ⟨q1, q2, q3, q4, q5, q6, q7, zg_trans (mpk_of (by simp [mp_F]) (by simp [mp_S]) z) q8⟩
  · rw [show (8 : Int32) = nI 8 from rfl, nI_leI (by omega) (by omega)] at c
    omega
end MPK
