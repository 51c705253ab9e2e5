/-! A block is made, by the class and by the reference. -/
def mk_S (o b : Nat) : List Nat := List.range' o 12 ++ List.range' b 11
theorem mk_mem {o b q : Nat} : q ∈ mk_S o b ↔ (o ≤ q ∧ q < o + 12) ∨ (b ≤ q ∧ q < b + 11) := by
  unfold mk_S
  rw [List.mem_append, List.mem_range'_1, List.mem_range'_1]
section PB
variable {K : zx_Kt} {RJ : zx_RJ} {o b ro N fr lim m : Nat} {bs : List Nat}
/-- the bytes that the block takes -/
def tk (bs : List Nat) (fr lim : Nat) : Nat := sh_go (fb bs fr) lim (bs.length - fr) 0
theorem c_makeBlock (l : Launch) (d : Nat) {I : zi_I} (g : g_Maker K RJ o) (gb : g_Block K RJ b) (gr : g_Row K RJ ro N) (hN : N ≤ 400) (hro : ro + 1 < o) (hd : o + 11 < b) (hlim : lim ≤ 64) (hl1 : 1 ≤ lim) (hfr : fr < bs.length) (ar : a_Row I ro N bs) :
    zi_C l (zx_rm (d + 4) 0 0) M_BlockMaker_makeBlock [.ref o, .ref b, .ref ro, .int (nI fr), .int (nI lim)] K RJ I (fun r I2 => r = some (.int (nI (fr + tk bs fr lim))) ∧ a_Blk I2 b (bk_mk (fb bs fr) (tk bs fr lim)) ∧ zf (mk_S o b) I I2) := by
  have hbl := ar.1
  have htk : 1 ≤ tk bs fr lim ∧ fr + tk bs fr lim ≤ bs.length := by
    have h2 := sh_go_ge (fb bs fr) lim (bs.length - fr) 0
    obtain ⟨w, hw⟩ : ∃ w, bs.length - fr = w + 1 := ⟨bs.length - fr - 1, by omega⟩
    have h1 := sh_go_pos (f := fb bs fr) (lim := lim) (j := w) hl1
    unfold tk
    rw [hw] at h2 ⊢
    omega
  have hfl : (sh_F (fb bs fr) (tk bs fr lim)).length ≤ lim := sh_go_len (fb bs fr) lim _ 0 (Nat.zero_le _)
  have hf1 : 0 < (sh_F (fb bs fr) (tk bs fr lim)).length := by
    obtain ⟨w, hw⟩ : ∃ w, tk bs fr lim = w + 1 := ⟨tk bs fr lim - 1, by omega⟩
    rw [hw]
    exact sh_F_pos _ w
  have hfb : ∀ k, fb bs fr k < 256 := fun k => ar.lt _
  have ok := bk_mk_ok (f := fb bs fr) (n := tk bs fr lim) (fun k _ => hfb k) hf1 (by omega)
  have hkl := bk_ks_len (f := fb bs fr) (n := tk bs fr lim)
  have hsl := bk_sl_len (f := fb bs fr) (n := tk bs fr lim)
  refine zi_of (by decide) (fun α => Nat.le_of_ble_eq_true rfl) (r_BlockMaker_makeBlock_0 l (d + 3) o b ro _ _ gb.k g.k g.cR (by omega) g.c.1 (zi_mono (c_shorten (bs := bs) (N := N) (fr := fr) (lim := lim) l (d + 2) gb gr hN (by omega) hlim (by omega) ar) ?_))
  rintro r I1 ⟨rfl, s1, f1⟩
  refine ⟨_, rfl, zi_mono (c_checkOf (i := fr) (e := fr + tk bs fr lim) l (d + 2) gr (ar.keep f1.2 (by simp; omega) (by simp; omega)) (by omega) (by omega)) ?_⟩
  rintro r I2 ⟨rfl, rfl⟩
  refine ⟨_, rfl, ?_⟩
  have ec : cr_fn (fun k => bs.getD k 0) fr (fr + tk bs fr lim - fr) 65535 = cr_fn (fb bs fr) 0 (tk bs fr lim) 65535 := by
    have := cr_shift (fun k => bs.getD k 0) fr (tk bs fr lim) 0 65535
    rw [Nat.add_zero] at this
    rw [Nat.add_sub_cancel_left, this]
    rfl
  rw [ec]
  have s2 : a_Sh (zx_u2 I2 b 0 (nI (cr_fn (fb bs fr) 0 (tk bs fr lim) 65535))) b (sh_F (fb bs fr) (tk bs fr lim)).length (bk_sh (fb bs fr) (tk bs fr lim)) := ⟨by rw [zx_u2_k (by omega)]; exact s1.1, fun i hi => by rw [zx_u2_ne (by omega)]; exact s1.2 i hi⟩
  have f2 : zg b [0, 2] [b + 1] I (zx_u2 I2 b 0 (nI (cr_fn (fb bs fr) 0 (tk bs fr lim) 65535))) := zg_trans (zg_mono f1 (by simp) (by simp)) (zg_fld (by simp))
  have hsb : ∀ i, i < (sh_F (fb bs fr) (tk bs fr lim)).length → bk_sh (fb bs fr) (tk bs fr lim) i < 256 := fun i hi => sh_F_lt _ (fun k _ => hfb k) _ (getD_mem hi)
  refine zi_mono (c_sortRotations (f := bk_sh (fb bs fr) (tk bs fr lim)) l (d + 2) g gb hd (by omega) hsb s2) ?_
  rintro r I3 ⟨rfl, o3, f3⟩
  have s3 := s2.keep f3 (by simp; omega) (by simp; omega)
  refine ⟨rfl, zi_mono (c_readOrder (f := bk_sh (fb bs fr) (tk bs fr lim)) l (d + 3) g gb hd (by omega) hsb s3 o3) ?_⟩
  rintro r I4 ⟨rfl, o4, p4, f4⟩
  have h42 : I4 b 2 = nI (bk_co (fb bs fr) (tk bs fr lim)).length := by
    rw [bk_co_len, f4.1 2 (by simp)]
    exact s3.1
  have c4 : aA I4 (b + 2) (bk_co (fb bs fr) (tk bs fr lim)) := fun i hi => by
    rw [bk_co_len] at hi
    exact o4 i hi
  refine ⟨rfl, zi_mono (c_listKinds (co := bk_co (fb bs fr) (tk bs fr lim)) l (d + 2) g gb hd (by rw [bk_co_len]; omega) ok.cob h42 c4) ?_⟩
  rintro r I5 ⟨rfl, k5, f5⟩
  rw [bk_ks_co hf1] at k5
  have h52 : I5 b 2 = nI (sh_F (fb bs fr) (tk bs fr lim)).length := by
    rw [f5.1 2 (by simp), h42, bk_co_len]
  have c5 : ∀ p, p < (sh_F (fb bs fr) (tk bs fr lim)).length → I5 (b + 2) p = nI ((bk_co (fb bs fr) (tk bs fr lim)).getD p 0) := fun p hp => by
    rw [zg_cell f5 (by omega) (by simp; omega)]
    exact c4 p (by rw [bk_co_len]; exact hp)
  refine ⟨rfl, zi_mono (c_findSymbols (c := fun i => (bk_co (fb bs fr) (tk bs fr lim)).getD i 0) (ks := bk_ks (fb bs fr) (tk bs fr lim)) l d g gb hd (by omega) (by omega) ok.ksb (fun i hi => ok.cob _ (getD_mem (by show i < (bk_co (fb bs fr) (tk bs fr lim)).length; rw [bk_co_len]; exact hi))) (bk_mem_co (fun k _ => hfb k) hf1) h52 c5 k5) ?_⟩
  rintro r I6 ⟨rfl, y6, f6⟩
  have h65 : I6 b 5 = nI (bk_ks (fb bs fr) (tk bs fr lim)).length := by
    rw [f6.1 5 (by simp)]
    exact k5.1
  refine ⟨rfl, zi_mono (c_pickTables (y := (bk_sl (fb bs fr) (tk bs fr lim)).length) (sy := fun k => (bk_sl (fb bs fr) (tk bs fr lim)).getD k 0) (ks := (bk_ks (fb bs fr) (tk bs fr lim)).length) l d g.c gb (by omega) (by omega) (by omega) (fun k hk => bk_sy_lt (fun k _ => hfb k) hf1 hk) y6 h65) ?_⟩
  rintro r I7 ⟨rfl, t7, p7, l7, f7⟩
  have zs : ∀ {F S : List Nat} {I I2 : zi_I}, zg b F S I I2 → (∀ q ∈ S, (o ≤ q ∧ q < o + 12) ∨ (b ≤ q ∧ q < b + 11)) → zf (mk_S o b) I I2 := fun {_ _ _ _} h hS => zf_mono h.2 (fun q hq => by
    rw [mk_mem]
    rcases List.mem_cons.mp hq with e | e
    · omega
    · exact hS q e)
  have z3 : zf (mk_S o b) (zx_u2 I2 b 0 (nI (cr_fn (fb bs fr) 0 (tk bs fr lim) 65535))) I3 := zf_mono f3 (fun q hq => by rw [mk_mem]; simp only [List.mem_cons, List.not_mem_nil, or_false] at hq; omega)
  have b0 : b ∉ [o + 1] := by simp; omega
  refine ⟨rfl, rfl, ⟨?_, ?_, ⟨?_, ?_⟩, ?_, ⟨?_, ?_⟩, ⟨?_, ?_⟩, ?_, ?_, ?_⟩, zf_trans (zf_trans (zf_trans (zf_trans (zf_trans (zs f2 ?_) z3) (zs f4 ?_)) (zs f5 ?_)) (zs f6 ?_)) (zs f7 ?_)⟩
  · rw [f7.1 0 (by simp), f6.1 0 (by simp), f5.1 0 (by simp), f4.1 0 (by simp), zf_at f3 b0, zx_u2_s]
    rfl
  · rw [f7.1 1 (by simp), f6.1 1 (by simp), f5.1 1 (by simp), p4 hf1]
    rfl
  · rw [f7.1 2 (by simp), f6.1 2 (by simp), h52]
    rfl
  · intro i hi
    rw [zg_cell f7 (by omega) (by unfold pt_S; simp only [List.mem_cons, List.not_mem_nil, or_false, not_or]; omega), zg_cell f6 (by omega) (by simp; omega), zg_cell f5 (by omega) (by simp; omega), zg_cell f4 (by omega) (by simp)]
    exact s3.2 i hi
  · intro i hi
    rw [zg_cell f7 (by omega) (by unfold pt_S; simp only [List.mem_cons, List.not_mem_nil, or_false, not_or]; omega), zg_cell f6 (by omega) (by simp; omega)]
    exact c5 i (by rw [← bk_co_len]; exact hi)
  · rw [f7.1 5 (by simp)]
    exact h65
  · intro i hi
    rw [zg_cell f7 (by omega) (by unfold pt_S; simp only [List.mem_cons, List.not_mem_nil, or_false, not_or]; omega), zg_cell f6 (by omega) (by simp; omega)]
    exact k5.2 i hi
  · rw [f7.1 7 (by simp)]
    exact y6.1
  · intro i hi
    rw [zg_cell f7 (by omega) (by unfold pt_S; simp only [List.mem_cons, List.not_mem_nil, or_false, not_or]; omega)]
    exact y6.2 i hi
  · exact t7
  · exact l7
  · exact p7
  · intro q hq; simp only [List.mem_cons, List.not_mem_nil, or_false] at hq; omega
  · intro q hq; simp only [List.mem_cons, List.not_mem_nil, or_false] at hq; omega
  · intro q hq; simp only [List.mem_cons, List.not_mem_nil, or_false] at hq; omega
  · intro q hq; simp only [List.mem_cons, List.not_mem_nil, or_false] at hq; omega
  · intro q hq; unfold pt_S at hq; simp only [List.mem_cons, List.not_mem_nil, or_false] at hq; omega
/-! the reference -/
theorem t_pb48 (l : Launch) (d : Nat) {Q : zi_Q} {n : Nat} {x2 : Int32} (g : g_Mod K RJ m) (hn : fr + n ≤ bs.length) :
    ∀ (j k : Nat) (I : zi_I), k + j = n → a_In I m bs → (∀ i, i < k → I (m + 4) i = nI (fb bs fr i)) →
      (∀ I2, (∀ i, i < n → I2 (m + 4) i = nI (fb bs fr i)) → zf [m + 4] I I2 → zi_C l (zx_rm d 0 0) M_Mod_checkOf [.ref m] K RJ I2 (fun r I2 => ∃ v3, r = some (.int v3) ∧ zi_C l (zx_rm d 0 0) M_Mod_sort [.ref m] K RJ (zx_u2 I2 m 19 v3) (fun r I4 => r = none ∧ zi_C l (zx_rm d 0 0) M_Mod_makeSymbols [.ref m] K RJ I4 (fun r I5 => r = none ∧ zi_C l (zx_rm d 0 0) M_Mod_pick [.ref m] K RJ I5 (fun r I6 => r = none ∧ zi_C l (zx_rm d 0 0) M_Mod_writeBlock [.ref m] K RJ I6 (fun r I7 => r = none ∧ Q (some (.int (nI n))) I7)))))) →
      zi_X l (zx_rm (d + 1) 0 0) M_Mod_packBlock K RJ Q 48 [(0, .ref m), (1, .int (nI fr)), (2, .int x2), (3, .int (nI n)), (4, .int (nI k))] [] I := by
  intro j
  induction j with
  | zero =>
    intro k I hk ai hp q
    obtain rfl : k = n := by omega
    have hb := ai.1
    refine r_Mod_packBlock_48 l d m _ _ _ _ g.1 g.plainR (by omega) g.inpR (by omega) g.inpK g.plainK ⟨fun _ => q I hp zf_refl, fun c => absurd (nI_le (Nat.le_refl _) (by omega)) c⟩
  | succ j ih =>
    intro k I hk ai hp q
    have hb := ai.1
    refine r_Mod_packBlock_48 l d m _ _ _ _ g.1 g.plainR (by omega) g.inpR (by omega) g.inpK g.plainK ⟨fun c => ?_, fun _ => ⟨fr + k, nI_add _ _, by omega, k, rfl, by omega, ?_⟩⟩
    · rw [nI_leI (by omega) (by omega)] at c
      omega
    · rw [ai.2.2.1 _ (by omega), nI_1]
      have z : zf [m + 4] I (zx_u2 I (m + 4) k (nI (bs.getD (fr + k) 0))) := zf_u2 (by simp)
      refine ih (k + 1) _ (by omega) (ai.keepf z (by simp) (by simp)) (fun i hi => ?_) (fun I3 y1 y2 => q I3 y1 (zf_trans z y2))
      by_cases e : i = k
      · rw [e, zx_u2_s]
        rfl
      · rw [zx_u2_k e]
        exact hp i (by omega)
theorem t_pb2 (l : Launch) (d : Nat) {Q : zi_Q} (g : g_Mod K RJ m) (hlim : lim ≤ 64) (hfr : fr ≤ bs.length) :
    ∀ (j n : Nat) (I : zi_I), fr + n + j = bs.length → a_In I m bs → (sh_F (fb bs fr) n).length ≤ lim →
      (∀ I2, aA I2 (m + 5) (sh_F (fb bs fr) (sh_go (fb bs fr) lim j n)) → zf [m + 5] I I2 → zi_X l (zx_rm (d + 1) 0 0) M_Mod_packBlock K RJ Q 48 [(0, .ref m), (1, .int (nI fr)), (2, .int (nI lim)), (3, .int (nI (sh_go (fb bs fr) lim j n))), (4, .int 0)] [] (zx_u2 (zx_u2 I2 m 14 (nI (sh_F (fb bs fr) (sh_go (fb bs fr) lim j n)).length)) m 12 (nI (sh_go (fb bs fr) lim j n)))) →
      zi_X l (zx_rm (d + 1) 0 0) M_Mod_packBlock K RJ Q 2 [(0, .ref m), (1, .int (nI fr)), (2, .int (nI lim)), (3, .int (nI n))] [] I := by
  intro j
  induction j with
  | zero =>
    intro n I hn ai hl q
    have hb := ai.1
    refine r_Mod_packBlock_2 l d m _ _ _ g.1 ⟨fun _ => zi_mono (c_mshorten (bs := bs) (fr := fr) (n := n) l d g (by omega) (by omega) ai) ?_, fun c => ?_⟩
    · rintro r I2 ⟨rfl, v1, v2⟩
      exact ⟨_, rfl, q I2 v1 v2⟩
    · rw [ai.2.1, nI_add, nI_leI (by omega) (by omega)] at c
      omega
  | succ j ih =>
    intro n I hn ai hl q
    have hb := ai.1
    have hlen := sh_F_len (fb bs fr) n
    have hc2 := sh_cost_le (sh_p (fb bs fr) (n + 1))
    have hgo := sh_go_s (fb bs fr) lim j n
    refine r_Mod_packBlock_2 l d m _ _ _ g.1 ⟨fun c => ?_, fun _ => ?_⟩
    · rw [ai.2.1, nI_add, nI_leI (by omega) (by omega)] at c
      omega
    · rw [nI_1]
      refine zi_mono (c_mshorten (bs := bs) (fr := fr) (n := n + 1) l d g (by omega) (by omega) ai) ?_
      rintro r I2 ⟨rfl, v1, v2⟩
      have ai2 := ai.keepf v2 (by simp) (by simp)
      refine ⟨_, rfl, fun c => ?_, fun c => ?_⟩
      · rw [nI_ltI (by omega) (by omega)] at c
        rw [if_neg (by omega)] at hgo
        rw [hgo] at q
        refine zi_mono (c_mshorten (bs := bs) (fr := fr) (n := n) l d g (by omega) (by omega) ai2) ?_
        rintro r I3 ⟨rfl, w1, w2⟩
        exact ⟨_, rfl, q I3 w1 (zf_trans v2 w2)⟩
      · rw [nI_ltI (by omega) (by omega)] at c
        rw [if_pos (by omega)] at hgo
        rw [hgo] at q
        exact ih (n + 1) I2 (by omega) ai2 (by omega) (fun I3 w1 w2 => q I3 w1 (zf_trans v2 w2))
theorem c_packBlock (l : Launch) (d : Nat) {I : zi_I} {s : ws_S} (g : g_Mod K RJ m) (hlim : lim ≤ 64) (hl1 : 1 ≤ lim) (hfr : fr < bs.length) (ai : a_In I m bs) (aw : md_W I m s) (hn : ws_n (sp_block (bk_mk (fb bs fr) (tk bs fr lim)) s) ≤ 8 * 8000) :
    zi_C l (zx_rm (d + 3) 0 0) M_Mod_packBlock [.ref m, .int (nI fr), .int (nI lim)] K RJ I (fun r I2 => r = some (.int (nI (tk bs fr lim))) ∧ a_MB I2 m (bk_mk (fb bs fr) (tk bs fr lim)) ∧ md_W I2 m (sp_block (bk_mk (fb bs fr) (tk bs fr lim)) s) ∧ zg m [5, 11, 12, 14, 17, 19, 21, 22, 25, 28] [m + 3, m + 4, m + 5, m + 6, m + 7, m + 8, m + 9, m + 10, m + 11, m + 12, m + 13, m + 15, m + 16] I I2) := by
  have hb := ai.1
  have htk : 1 ≤ tk bs fr lim ∧ fr + tk bs fr lim ≤ bs.length := by
    have h2 := sh_go_ge (fb bs fr) lim (bs.length - fr) 0
    obtain ⟨w, hw⟩ : ∃ w, bs.length - fr = w + 1 := ⟨bs.length - fr - 1, by omega⟩
    have h1 := sh_go_pos (f := fb bs fr) (lim := lim) (j := w) hl1
    unfold tk
    rw [hw] at h2 ⊢
    omega
  have hfl : (sh_F (fb bs fr) (tk bs fr lim)).length ≤ lim := sh_go_len (fb bs fr) lim _ 0 (Nat.zero_le _)
  have hf1 : 0 < (sh_F (fb bs fr) (tk bs fr lim)).length := by
    obtain ⟨w, hw⟩ : ∃ w, tk bs fr lim = w + 1 := ⟨tk bs fr lim - 1, by omega⟩
    rw [hw]
    exact sh_F_pos _ w
  have hfb : ∀ k, fb bs fr k < 256 := fun k => ai.lt _
  have ok := bk_mk_ok (f := fb bs fr) (n := tk bs fr lim) (fun k _ => hfb k) hf1 (by omega)
  have hkl := bk_ks_len (f := fb bs fr) (n := tk bs fr lim)
  have hsl := bk_sl_len (f := fb bs fr) (n := tk bs fr lim)
  refine zi_of (by decide) (fun α => Nat.le_of_ble_eq_true rfl) (r_Mod_packBlock_0 l (d + 2) m _ _ (t_pb2 (bs := bs) (fr := fr) (lim := lim) l (d + 2) g hlim (by omega) (bs.length - fr) 0 I (by omega) ai (Nat.zero_le _) (fun I1 s1 f1 => ?_)))
  have e1 : zg m [5, 11, 12, 14, 17, 19, 21, 22, 25, 28] [m + 3, m + 4, m + 5, m + 6, m + 7, m + 8, m + 9, m + 10, m + 11, m + 12, m + 13, m + 15, m + 16] I (zx_u2 (zx_u2 I1 m 14 (nI (sh_F (fb bs fr) (tk bs fr lim)).length)) m 12 (nI (tk bs fr lim))) := zg_trans (zg_trans ⟨fun j _ => zf_at f1 (by simp) j, zf_mono f1 (by simp)⟩ (zg_fld (by simp))) (zg_fld (by simp))
  refine t_pb48 (bs := bs) (fr := fr) (n := tk bs fr lim) l (d + 2) g htk.2 (tk bs fr lim) 0 _ (by omega) (ai.keepg e1 (by simp) (by simp)) (fun _ h => absurd h (by omega)) (fun I2 p2 f2 => ?_)
  have h12 : I2 m 12 = nI (tk bs fr lim) := by rw [zf_at f2 (by simp), zx_u2_s]; rfl
  have h14 : I2 m 14 = nI (sh_F (fb bs fr) (tk bs fr lim)).length := by rw [zf_at f2 (by simp), zx_u2_k (by omega), zx_u2_s]; rfl
  have s2 : aA I2 (m + 5) (sh_F (fb bs fr) (tk bs fr lim)) := fun i hi => by
    rw [zf_at f2 (by simp), zx_u2_ne (by omega), zx_u2_ne (by omega)]
    exact s1 i hi
  have e2 := zg_trans e1 ⟨fun j _ => zf_at f2 (by simp) j, zf_mono f2 (by simp)⟩
  refine zi_mono (c_mcheckOf (f := fb bs fr) (n := tk bs fr lim) l (d + 1) g (by omega) h12 p2 (fun k _ => hfb k)) ?_
  rintro r I3 ⟨rfl, rfl⟩
  refine ⟨_, rfl, ?_⟩
  have f3 : zg m [19] [] I3 (zx_u2 I3 m 19 (nI (cr_fn (fb bs fr) 0 (tk bs fr lim) 65535))) := zg_fld (by simp)
  have s3 : a_MSh (zx_u2 I3 m 19 (nI (cr_fn (fb bs fr) 0 (tk bs fr lim) 65535))) m (sh_F (fb bs fr) (tk bs fr lim)).length (bk_sh (fb bs fr) (tk bs fr lim)) := ⟨by rw [f3.1 14 (by simp)]; exact h14, fun i hi => by rw [zg_cell f3 (by omega) (by simp)]; exact s2 i hi⟩
  have hsb : ∀ i, i < (sh_F (fb bs fr) (tk bs fr lim)).length → bk_sh (fb bs fr) (tk bs fr lim) i < 256 := fun i hi => sh_F_lt _ (fun k _ => hfb k) _ (getD_mem hi)
  refine zi_mono (c_sort (f := bk_sh (fb bs fr) (tk bs fr lim)) l (d + 1) g (by omega) hsb s3) ?_
  rintro r I4 ⟨rfl, c4, o4, f4⟩
  have s4 := s3.keep f4 (by simp) (by simp)
  have c4' : ∀ p, p < (sh_F (fb bs fr) (tk bs fr lim)).length → I4 (m + 6) p = nI ((bk_co (fb bs fr) (tk bs fr lim)).getD p 0) := c4
  refine ⟨rfl, zi_mono (c_makeSymbols (c := fun i => (bk_co (fb bs fr) (tk bs fr lim)).getD i 0) (sh := sh_F (fb bs fr) (tk bs fr lim)) l d g (by omega) ok.shb (fun i hi => (bk_co_mem hf1).mp (getD_mem (by rw [bk_co_len]; exact hi))) s4 c4') ?_⟩
  rintro r I5 ⟨rfl, y5, k5, u5, f5⟩
  refine ⟨rfl, zi_mono (c_pick (y := (bk_sl (fb bs fr) (tk bs fr lim)).length) (sy := fun k => (bk_sl (fb bs fr) (tk bs fr lim)).getD k 0) (ks := (bk_ks (fb bs fr) (tk bs fr lim)).length) l d g (by omega) (by omega) (fun k hk => bk_sy_lt (fun k _ => hfb k) hf1 hk) y5 k5) ?_⟩
  rintro r I6 ⟨rfl, t6, p6, l6, f6⟩
  have a6 : a_MB I6 m (bk_mk (fb bs fr) (tk bs fr lim)) := by
    refine ⟨?_, ?_, ⟨?_, ?_⟩, ?_, ?_, ?_, ⟨?_, ?_⟩, t6, fun t ht => (l6 t ht).1, fun t ht => (l6 t ht).2, p6⟩
    · rw [f6.1 19 (by simp), f5.1 19 (by simp), f4.1 19 (by simp), zx_u2_s]
      rfl
    · rw [f6.1 21 (by simp), f5.1 21 (by simp), o4 hf1]
      rfl
    · rw [f6.1 14 (by simp), f5.1 14 (by simp), s4.1]
      rfl
    · intro i hi
      rw [zg_cell f6 (by omega) (by simp), zg_cell f5 (by omega) (by simp)]
      exact s4.2 i hi
    · intro i hi
      rw [zg_cell f6 (by omega) (by simp), zg_cell f5 (by omega) (by simp)]
      exact c4' i (by rw [← bk_co_len]; exact hi)
    · rw [f6.1 22 (by simp), k5]
      rfl
    · intro v hv
      rw [zg_cell f6 (by omega) (by simp), u5 v hv]
      have e : uu (bk_mk (fb bs fr) (tk bs fr lim)).ks (bk_mk (fb bs fr) (tk bs fr lim)).ks.length v = uu (sh_F (fb bs fr) (tk bs fr lim)) (sh_F (fb bs fr) (tk bs fr lim)).length v := by
        rw [Bool.eq_iff_iff, uu_mem, uu_mem]
        exact bk_ks_mem (fun k _ => hfb k)
      rw [e]
    · rw [f6.1 17 (by simp), y5.1]
      rfl
    · intro i hi
      rw [zg_cell f6 (by omega) (by simp)]
      exact y5.2 i hi
  have e6 := zg_trans (zg_trans (zg_trans (zg_trans e2 (zg_mono f3 (by simp) (by simp))) (zg_mono f4 (by simp) (by simp))) (zg_mono f5 (by simp) (by simp))) (zg_mono f6 (by simp) (by simp))
  have w6 : md_W I6 m s := aw.keep (F := [12, 14, 17, 19, 21, 22, 25, 28]) (S := [m + 4, m + 5, m + 6, m + 7, m + 8, m + 9, m + 10, m + 11, m + 12, m + 15, m + 16]) ?_ (by simp) (by simp) (by simp)
  · refine ⟨rfl, zi_mono (c_mwriteBlock (B := bk_mk (fb bs fr) (tk bs fr lim)) l d g ok a6 w6 hn) ?_⟩
    rintro r I7 ⟨rfl, w7, f7⟩
    exact ⟨rfl, rfl, a6.w f7 (by simp), w7, zg_trans e6 (zg_mono f7 (by simp) (by simp))⟩
  · refine zg_trans (zg_trans (zg_trans (zg_trans (zg_trans (zg_trans (zg_trans ⟨fun j _ => zf_at f1 (by simp) j, zf_mono f1 (by simp)⟩ (zg_fld (by simp))) (zg_fld (by simp))) ⟨fun j _ => zf_at f2 (by simp) j, zf_mono f2 (by simp)⟩) (zg_mono f3 (by simp) (by simp))) (zg_mono f4 (by simp) (by simp))) (zg_mono f5 (by simp) (by simp))) (zg_mono f6 (by simp) (by simp))
end PB
