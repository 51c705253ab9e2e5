/-! The class packs. -/
section CPK
variable {K : zx_Kt} {RJ : zx_RJ} {o tl nx lv : Nat} {bs : List Nat}
theorem c_writeHead (l : Launch) (d : Nat) {I : zi_I} {w ro n : Nat} (g : g_BW K RJ w ro n) (hn : 24 ≤ 8 * n) (hlv : lv ≤ 8) (a : a_W I (w + 5) ro n ([], 0, 0)) :
    zi_C l (zx_rm (d + 3) 0 0) M_BlockWriter_writeHead [.ref w, .int (nI lv)] K RJ I (fun r I2 => r = none ∧ a_W I2 (w + 5) ro n (ws_put ([83, 66], 0, 0) lv 8) ∧ zf [w + 5, ro, ro + 1] I I2) := by
  refine zi_of (by decide) (fun α => Nat.le_of_ble_eq_true rfl) (r_BlockWriter_writeHead_0 l (d + 2) w _ g.k g.wR (by omega) g.w.1 (zi_mono (c_put (x := 21314) (k := 16) l d g.w a (by decide) (by decide) (by show 0 + 16 ≤ 8 * n; omega)) ?_))
  rintro r I2 ⟨rfl, a2, z2⟩
  have a2 : a_W I2 (w + 5) ro n ([83, 66], 0, 0) := a2
  refine ⟨rfl, zi_mono (c_put (x := lv) (k := 8) l d g.w a2 (by omega) (by decide) (by show 16 + 8 ≤ 8 * n; omega)) ?_⟩
  rintro r I3 ⟨rfl, a3, z3⟩
  exact ⟨rfl, rfl, a3, zf_trans z2 z3⟩
theorem c_writeEnd (l : Launch) (d : Nat) {I : zi_I} {w ro n t : Nat} {s : ws_S} (g : g_BW K RJ w ro n) (ht : t < 65536) (a : a_W I (w + 5) ro n s) (hn : ws_n s + 40 ≤ 8 * n) :
    zi_C l (zx_rm (d + 4) 0 0) M_BlockWriter_writeEnd [.ref w, .int (nI t)] K RJ I (fun r I2 => r = none ∧ a_W I2 (w + 5) ro n (ws_fill (ws_put (ws_put s 1536581 24) t 16)) ∧ zf [w + 5, ro, ro + 1] I I2) := by
  refine zi_of (by decide) (fun α => Nat.le_of_ble_eq_true rfl) (r_BlockWriter_writeEnd_0 l (d + 3) w _ g.k g.wR (by omega) g.w.1 (zi_mono (c_put (x := 1536581) (k := 24) l (d + 1) g.w a (by decide) (by decide) (by omega)) ?_))
  rintro r I2 ⟨rfl, a2, z2⟩
  refine ⟨rfl, zi_mono (c_put (x := t) (k := 16) l (d + 1) g.w a2 (by omega) (by decide) (by rw [ws_n_put]; omega)) ?_⟩
  rintro r I3 ⟨rfl, a3, z3⟩
  refine ⟨rfl, zi_mono (c_fillByte l d g.w a3 (by rw [ws_n_put, ws_n_put]; omega)) ?_⟩
  rintro r I4 ⟨rfl, a4, z4⟩
  exact ⟨rfl, rfl, a4, zf_trans z2 (zf_trans z3 z4)⟩
def cp_S (o tl : Nat) : List Nat := (o + 3) :: (o + 4) :: (List.range' (o + 38) 42 ++ List.range' tl 11)
theorem cp_mem {q : Nat} : q ∈ cp_S o tl ↔ q = o + 3 ∨ q = o + 4 ∨ (o + 38 ≤ q ∧ q < o + 80) ∨ (tl ≤ q ∧ q < tl + 11) := by
  unfold cp_S
  rw [List.mem_cons, List.mem_cons, List.mem_append, List.mem_range'_1, List.mem_range'_1]
def cpk_post (v : st_V) (o tl : Nat) (r : Option Value) (I I2 : zi_I) : Prop := r = some (.int (nI v.1.length)) ∧ a_Row I2 (o + 3) 4600 v.1 ∧ I2 (o + 50 + 5) 1 = nI 0 ∧ I2 (o + 50 + 5) 2 = nI 0 ∧ I2 o 9 = nI v.2.1 ∧ v.2.1 ≤ 400 ∧ (0 < v.2.1 → a_Blk I2 tl v.2.2 ∧ bk_ok v.2.2) ∧ zg o [9] (cp_S o tl) I I2
theorem fill_0 {s : ws_S} (h : s.2.2 < 8) (h2 : s.2.1 < 2 ^ s.2.2) : (ws_fill s).2.1 = 0 ∧ (ws_fill s).2.2 = 0 := by
  rw [ws_fill_eq h]
  by_cases e : s.2.2 = 0
  · rw [if_pos e]
    rw [e] at h2
    exact ⟨by omega, e⟩
  · rw [if_neg e]
    exact ⟨rfl, rfl⟩
theorem t_cpk49 (l : Launch) (d : Nat) {Q : zi_Q} (g : g_Main K RJ o tl nx) (h1 : 1 ≤ lv) (h2 : lv ≤ 8) :
    ∀ (j k fr t n : Nat) (s : ws_S) (B : bk_B) (I : zi_I), k + j = 400 → k ≤ fr → fr ≤ bs.length → pk_inv bs fr s → t < 65536 → n ≤ fr → a_Row I (o + 1) 400 bs → a_W I (o + 50 + 5) (o + 3) 4600 s → I o 9 = nI n → (0 < n → a_Blk I tl B ∧ bk_ok B) →
      (∀ r I2, cpk_post (pk_end (pk_go bs (8 * lv) j fr s t n B)) o tl r I I2 → Q r I2) →
      zi_X l (zx_rm (d + 5) 0 0) M_Main_pack K RJ Q 49 [(0, .ref o), (1, .int (nI lv)), (2, .int (nI t)), (3, .int (nI fr)), (4, .int (nI k))] [] I := by
  have hd := g.d
  have ends : ∀ (j fr t n : Nat) (s : ws_S) (B : bk_B) (I : zi_I), bs.length ≤ fr → fr ≤ bs.length → pk_inv bs fr s → t < 65536 → n ≤ fr → a_Row I (o + 1) 400 bs → a_W I (o + 50 + 5) (o + 3) 4600 s → I o 9 = nI n → (0 < n → a_Blk I tl B ∧ bk_ok B) →
      (∀ r I2, cpk_post (pk_end (pk_go bs (8 * lv) j fr s t n B)) o tl r I I2 → Q r I2) → ∀ (x3 x4 : Int32),
      zi_C l (zx_rm (d + 4) 0 0) M_BlockWriter_writeEnd [.ref (o + 50), .int (nI t)] K RJ I (fun r I6 => r = none ∧ zi_X l (zx_rm (d + 5) 0 0) M_Main_pack K RJ Q 143 [(0, .ref o), (1, .int (nI lv)), (2, .int (nI t)), (3, .int x3), (4, .int x4)] [.int (I6 (o + 3) 1)] I6) := by
    intro j fr t n s B I hfr hfr2 hp ht hn a aw h9 hB q x3 x4
    have hb := a.1
    unfold pk_inv at hp
    rw [if_neg (by omega)] at hp
    refine zi_mono (c_writeEnd l d g.w ht aw (by omega)) ?_
    rintro r I2 ⟨rfl, a2, z2⟩
    have hs := aw
    have e : pk_end (pk_go bs (8 * lv) j fr s t n B) = ((ws_fill (ws_put (ws_put s 1536581 24) t 16)).1, n, B) := by
      rw [pk_go_end hfr]
      unfold pk_end
      dsimp only
    rw [e] at q
    have hput : ∀ (k x : Nat) (s : ws_S), s.2.2 < 8 → s.2.1 < 2 ^ s.2.2 → (ws_put s x k).2.2 < 8 ∧ (ws_put s x k).2.1 < 2 ^ (ws_put s x k).2.2 := by
      intro k x
      induction k with
      | zero => exact fun s h1 h2 => ⟨h1, h2⟩
      | succ k ih =>
        intro s h1 h2
        refine ih (ws_bit s (x / 2 ^ k % 2)) ?_ ?_
        · unfold ws_bit
          split
          · show 0 < 8
            decide
          · show s.2.2 + 1 < 8
            omega
        · unfold ws_bit
          split
          · show 0 < 2 ^ 0
            decide
          · show 2 * s.2.1 + x / 2 ^ k % 2 < 2 ^ (s.2.2 + 1)
            rw [Nat.pow_succ]
            omega
    have p1 := hput 24 1536581 s aw.2.2.1 aw.2.2.2.1
    have p2 := hput 16 t _ p1.1 p1.2
    obtain ⟨f1, f2⟩ := fill_0 p2.1 p2.2
    obtain ⟨y1, y2, -, -, y5⟩ := a2
    rw [f1] at y1
    rw [f2] at y2
    generalize (ws_fill (ws_put (ws_put s 1536581 24) t 16)).1 = X at *
    have hX := y5.1
    have zz : zg o [9] (cp_S o tl) I I2 := ⟨fun i _ => zf_at z2 (by simp <;> omega) i, zf_mono z2 (fun x hx => by
      rw [List.mem_cons, cp_mem]
      simp only [List.mem_cons, List.not_mem_nil, or_false] at hx
      omega)⟩
    refine ⟨rfl, ?_⟩
    rw [y5.2.1]
    refine zi_iret d_Main_pack_143 rfl (q _ _ ⟨rfl, y5, y1, y2, ?_, ?_, fun h => ⟨(hB h).1.keep (hB h).2.T z2 (fun x hx => ?_), (hB h).2⟩, zz⟩)
    · rw [zf_at z2 (by simp <;> omega)]
      exact h9
    · show n ≤ 400
      omega
    · simp only [List.mem_cons, List.not_mem_nil, or_false] at hx
      omega
  intro j
  induction j with
  | zero =>
    intro k fr t n s B I hk hkf hfr hp ht hn a aw h9 hB q
    have hb := a.1
    refine y_Main_pack_49 l (d + 4) o _ _ _ _ g.k g.wR (by omega) g.w.k g.oR (by omega) g.ou.1 g.iR (by omega) g.i.1 g.mR (by omega) g.tR (by omega) g.m.k g.t.k ⟨fun _ => ?_, fun c => absurd (by rw [show (400 : Int32) = nI 400 from rfl]; exact nI_le (by omega) (by omega)) c⟩
    exact ends 0 fr t n s B I (by omega) hfr hp ht hn a aw h9 hB q _ _
  | succ j ih =>
    intro k fr t n s B I hk hkf hfr hp ht hn a aw h9 hB q
    have hb := a.1
    refine y_Main_pack_49 l (d + 4) o _ _ _ _ g.k g.wR (by omega) g.w.k g.oR (by omega) g.ou.1 g.iR (by omega) g.i.1 g.mR (by omega) g.tR (by omega) g.m.k g.t.k ⟨fun c => ?_, fun _ => ⟨fun c => ?_, fun c => ?_⟩⟩
    · rw [show (400 : Int32) = nI 400 from rfl, nI_leI (by omega) (by omega)] at c
      omega
    · rw [a.2.1, nI_leI (by omega) (by omega)] at c
      exact ends (j + 1) fr t n s B I c hfr hp ht hn a aw h9 hB q _ _
    · rw [a.2.1, nI_leI (by omega) (by omega)] at c
      have c0 : fr < bs.length := by omega
      rw [pk_go_s, if_pos c0] at q
      have hfb : ∀ k, fb bs fr k < 256 := fun k => a.lt _
      have htk := tk_bd (lim := 8 * lv) (by omega) c0
      have ok := pk_ok (lim := 8 * lv) (by omega) (by omega) c0 hfb
      have hp2 := pk_inv_s h1 h2 c0 hfb hp
      have hfl : (sh_F (fb bs fr) (tk bs fr (8 * lv))).length ≤ 8 * lv := sh_go_len (fb bs fr) (8 * lv) _ 0 (Nat.zero_le _)
      have hkl : (bk_mk (fb bs fr) (tk bs fr (8 * lv))).ks.length ≤ 64 := Nat.le_trans (bk_ks_len (f := fb bs fr) (n := tk bs fr (8 * lv))) (by omega)
      rw [show (8 : Int32) * nI lv = nI (8 * lv) by rw [show (8 : Int32) = nI 8 from rfl, pk_mul]]
      refine zi_mono (c_makeBlock (fr := fr) (lim := 8 * lv) (bs := bs) l d g.m g.t g.i (by decide) (by omega) (by omega) (by omega) (by omega) c0 a) ?_
      rintro r I2 ⟨rfl, b2, z2⟩
      have aw2 : a_W I2 (o + 50 + 5) (o + 3) 4600 s := aw.keep z2 (by rw [mk_mem]; omega) (by rw [mk_mem]; omega) (by rw [mk_mem]; omega)
      refine ⟨_, rfl, zi_mono (c_writeBlock l d g.w g.t (by omega) (by omega) ok hkl b2 aw2 (by unfold pk_inv at hp2; split at hp2 <;> omega)) ?_⟩
      rintro r I3 ⟨rfl, w3, z3⟩
      have b3 : a_Blk I3 tl (bk_mk (fb bs fr) (tk bs fr (8 * lv))) := b2.keep ok.T z3 (fun x hx => by
        rw [bw_mem] at hx
        omega)
      refine ⟨rfl, ?_⟩
      rw [b3.ch]
      refine zi_mono (c_nextTotal (c := (bk_mk (fb bs fr) (tk bs fr (8 * lv))).ch) l (d + 4) ht) ?_
      rintro r I4 ⟨rfl, rfl⟩
      refine ⟨_, rfl, ?_⟩
      have h92 : I4 o 9 = nI n := by
        rw [zf_at z3 (by rw [bw_mem]; omega), zf_at z2 (by rw [mk_mem]; omega)]
        exact h9
      have z5 : zf [o] I4 (zx_u2 I4 o 9 (I4 o 9 + 1)) := zf_u2 (by simp <;> omega)
      have z23 : zf (cp_S o tl) I I4 := zf_trans (zf_mono z2 (fun x hx => by rw [cp_mem]; rw [mk_mem] at hx; omega)) (zf_mono z3 (fun x hx => by rw [cp_mem]; rw [bw_mem] at hx; omega))
      have zz : zg o [9] (cp_S o tl) I (zx_u2 I4 o 9 (I4 o 9 + 1)) := zg_trans ⟨fun i _ => zf_at z23 (by rw [cp_mem]; omega) i, zf_mono z23 (fun x hx => List.mem_cons_of_mem _ hx)⟩ (zg_fld (by simp <;> omega))
      rw [nI_1]
      refine ih (k + 1) (fr + tk bs fr (8 * lv)) (tt_1 t (bk_mk (fb bs fr) (tk bs fr (8 * lv))).ch) (n + 1) (sp_block (bk_mk (fb bs fr) (tk bs fr (8 * lv))) s) (bk_mk (fb bs fr) (tk bs fr (8 * lv))) _ (by omega) (by omega) (by omega) hp2 (tt_lt ht ok.ch) (by omega) ?_ (w3.keep z5 (by simp <;> omega) (by simp <;> omega) (by simp <;> omega)) ?_ (fun _ => ⟨b3.keep ok.T z5 (fun x hx => by simp only [List.mem_cons, List.not_mem_nil, or_false] at hx; omega), ok⟩) (fun r I6 hq => q r I6 ?_)
      · exact a.keep zz.2 (by rw [List.mem_cons, cp_mem]; omega) (by rw [List.mem_cons, cp_mem]; omega)
      · rw [zx_u2_s, h92, nI_1]
      · obtain ⟨q1, q2, q3, q4, q5, q6, q7, q8⟩ := hq
        exact ⟨q1, q2, q3, q4, q5, q6, q7, zg_trans zz q8⟩
theorem c_cpack (l : Launch) (d : Nat) {I : zi_I} {B : bk_B} {os : List Nat} (g : g_Main K RJ o tl nx) (h1 : 1 ≤ lv) (h2 : lv ≤ 8) (a : a_Row I (o + 1) 400 bs) (ao : a_Row I (o + 3) 4600 os) (w1 : I (o + 50 + 5) 1 = nI 0) (w2 : I (o + 50 + 5) 2 = nI 0) :
    zi_C l (zx_rm (d + 5) 0 0) M_Main_pack [.ref o, .int (nI lv)] K RJ I (fun r I2 => cpk_post (pk_all bs lv B) o tl r I I2) := by
  have hd := g.d
  have hb := a.1
  refine zi_of (by decide) (fun α => Nat.le_of_ble_eq_true rfl) (y_Main_pack_0 l (d + 4) o _ g.k g.oR (by omega) g.ou.1 g.wR (by omega) g.w.k ⟨fun c => ?_, fun _ => ⟨fun _ => ?_, fun c => ?_⟩⟩)
  · rw [show (1 : Int32) = nI 1 from rfl, nI_ltI (by omega) (by omega)] at c
    omega
  · refine zi_mono (c_Row_cut (m := 0) l (d + 4) g.ou ao (by decide)) ?_
    rintro r I2 ⟨rfl, a2, z2⟩
    rw [List.take_zero] at a2
    have z3 : zf [o] I2 (zx_u2 I2 o 9 0) := zf_u2 (by simp <;> omega)
    have aw : a_W (zx_u2 I2 o 9 0) (o + 50 + 5) (o + 3) 4600 ([], 0, 0) := ⟨by rw [zf_at z3 (by simp <;> omega), zf_at z2 (by simp <;> omega)]; exact w1, by rw [zf_at z3 (by simp <;> omega), zf_at z2 (by simp <;> omega)]; exact w2, (show 0 < 8 by decide), (show 0 < 2 ^ 0 by decide), a2.keep z3 (by simp <;> omega) (by simp <;> omega)⟩
    refine ⟨rfl, zi_mono (c_writeHead (lv := lv) l (d + 1) g.w (by decide) h2 aw) ?_⟩
    rintro r I4 ⟨rfl, a4, z4⟩
    have zz : zg o [9] (cp_S o tl) I I4 := by
      refine zg_trans (zg_trans (I2 := I2) ⟨fun i _ => zf_at z2 (by simp <;> omega) i, zf_mono z2 (fun x hx => ?_)⟩ (zg_fld (by simp <;> omega))) ⟨fun i _ => zf_at z4 (by simp <;> omega) i, zf_mono z4 (fun x hx => ?_)⟩
      · rw [List.mem_cons, cp_mem]
        simp only [List.mem_cons, List.not_mem_nil, or_false] at hx
        omega
      · rw [List.mem_cons, cp_mem]
        simp only [List.mem_cons, List.not_mem_nil, or_false] at hx
        omega
    refine ⟨rfl, t_cpk49 (bs := bs) (lv := lv) l d g h1 h2 400 0 0 0 0 (ws_put ([83, 66], 0, 0) lv 8) B _ (by omega) (by omega) (by omega) ?_ (by decide) (by decide) ?_ a4 ?_ (fun h => absurd h (by omega)) (fun r I6 hq => ?_)⟩
    · unfold pk_inv
      rw [ws_n_put]
      show 16 + 8 ≤ _
      omega
    · exact a.keep zz.2 (by rw [List.mem_cons, cp_mem]; omega) (by rw [List.mem_cons, cp_mem]; omega)
    · rw [zf_at z4 (by simp <;> omega), zx_u2_s]
      rfl
    · obtain ⟨q1, q2, q3, q4, q5, q6, q7, q8⟩ := hq
      exact ⟨q1, q2, q3, q4, q5, q6, q7, zg_trans zz q8⟩
  · rw [show (8 : Int32) = nI 8 from rfl, nI_leI (by omega) (by omega)] at c
    omega
end CPK
