/-! The picks are written by the reference. -/
theorem md_W.keep {I I2 : zi_I} {m : Nat} {s : ws_S} {F S : List Nat} (a : md_W I m s) (h : zg m F S I I2) (h1 : 5 ∉ F) (h2 : 11 ∉ F) (h3 : m + 3 ∉ S) : md_W I2 m s :=
  ⟨a.1, a.2.1, by rw [h.1 5 h1]; exact a.2.2.1, by rw [h.1 11 h2]; exact a.2.2.2.1, fun i hi => by rw [zg_cell h (by omega) h3]; exact a.2.2.2.2.1 i hi, fun hc => by rw [zg_cell h (by omega) h3]; exact a.2.2.2.2.2 hc⟩
theorem zg_mvF {m q k : Nat} {F S : List Nat} {I : zi_I} (hq : q ∈ S) (hne : q ≠ m) : zg m F S I (mvF I q k) := ⟨fun j _ => by unfold mvF; rw [if_neg (Ne.symm hne)], fun c hc => by
  funext i
  unfold mvF
  have hcq : c ≠ q := fun e => hc (by rw [e]; exact List.mem_cons_of_mem _ hq)
  rw [if_neg hcq]⟩
section MP
variable {K : zx_Kt} {RJ : zx_RJ} {m : Nat} {ps : List Nat}
theorem t_mp46 (l : Launch) (d : Nat) {x1 x3 : Int32} {k : Nat} {Q : zi_Q} (g : g_Mod K RJ m) (hk : k ≤ 256) (h3 : ¬ x3 < 0) :
    ∀ (j i : Nat) (s : ws_S) (I : zi_I), i + j = k → md_W I m s → ws_n (sp_pick s j) ≤ 8 * 8000 →
      (∀ I2, md_W I2 m (sp_pick s j) → zg m [5, 11] [m + 3] I I2 → zi_X l (zx_rm (d + 1) 0 0) M_Mod_writePicks K RJ Q 6 [(0, .ref m), (1, .int (x1 + 1))] [] I2) →
      zi_X l (zx_rm (d + 1) 0 0) M_Mod_writePicks K RJ Q 46 [(0, .ref m), (1, .int x1), (2, .int (nI k)), (3, .int x3), (4, .int (nI i))] [] I := by
  intro j
  induction j with
  | zero =>
    intro i s I hi a hn hq
    obtain rfl : i = k := by omega
    rw [ws_n_pick] at hn
    refine r_Mod_writePicks_46 l d m _ _ _ _ g.1 ⟨fun _ => zi_mono (c_mwrite (x := 0) (k := 1) l d g a (by decide) (by decide) (by omega)) ?_, fun c => absurd (nI_le (Nat.le_refl _) (by omega)) c⟩
    rintro r I2 ⟨rfl, z1, z2⟩
    exact ⟨rfl, hq I2 z1 z2⟩
  | succ j ih =>
    intro i s I hi a hn hq
    have hn2 := hn
    rw [ws_n_pick] at hn2
    refine r_Mod_writePicks_46 l d m _ _ _ _ g.1 ⟨fun c => ?_, fun _ => ⟨fun c => absurd c h3, fun _ => zi_mono (c_mwrite (x := 1) (k := 1) l d g a (by decide) (by decide) (by omega)) ?_⟩⟩
    · rw [nI_leI (by omega) (by omega)] at c
      omega
    · rintro r I2 ⟨rfl, z1, z2⟩
      refine ⟨rfl, ?_⟩
      rw [nI_1]
      exact ih (i + 1) (ws_put s 1 1) I2 (by omega) z1 hn (fun I3 y1 y2 => hq I3 y1 (zg_trans z2 y2))
theorem t_mp16 (l : Launch) (d : Nat) {i p : Nat} {os : List Nat} {I : zi_I} {Q : zi_Q} (g : g_Mod K RJ m) (ao : aA I (m + 13) os) (ho : os.length = 4) (hb : ∀ x ∈ os, x < 4) (hpm : p ∈ os) (hi : i < 64) (hpi : I (m + 12) i = nI p)
    (hq : zi_X l (zx_rm (d + 1) 0 0) M_Mod_writePicks K RJ Q 46 [(0, .ref m), (1, .int (nI i)), (2, .int (nI (ix p os))), (3, .int (nI p)), (4, .int 0)] [] (mvF I (m + 13) (ix p os))) :
    ∀ (j k : Nat), k + j = ix p os → zi_X l (zx_rm (d + 1) 0 0) M_Mod_writePicks K RJ Q 16 [(0, .ref m), (1, .int (nI i)), (2, .int (nI k))] [] I := by
  have hl := ix_lt hpm
  have hlt : ∀ k, k < 4 → os.getD k 0 < 4 := fun k hk => by
    rw [List.getD_eq_getElem?_getD, List.getElem?_eq_getElem (by omega)]
    exact hb _ (List.getElem_mem (by omega))
  have hp4 := hb p hpm
  intro j
  induction j with
  | zero =>
    intro k hk
    obtain rfl : k = ix p os := by omega
    refine r_Mod_writePicks_16 l d m _ _ g.1 g.orderR (by omega) g.orderK g.picksR (by omega) g.picksK ⟨_, rfl, by omega, i, rfl, hi, fun _ => zi_mono (c_orderFront l d g (by omega)) ?_, fun c => ?_⟩
    · rintro r I2 ⟨rfl, rfl⟩
      refine ⟨_, rfl, ?_⟩
      rw [ao _ hl, ix_at hpm]
      exact hq
    · rw [ao _ hl, ix_at hpm, hpi] at c
      exact absurd rfl c
  | succ j ih =>
    intro k hk
    refine r_Mod_writePicks_16 l d m _ _ g.1 g.orderR (by omega) g.orderK g.picksR (by omega) g.picksK ⟨k, rfl, by omega, i, rfl, hi, fun c => ?_, fun _ => ?_⟩
    · have := hlt k (by omega)
      rw [ao _ (by omega), hpi, nI_eq (by omega) (by omega)] at c
      exact absurd c (ix_no (by omega))
    · rw [nI_1]
      exact ih (k + 1) (by omega)
theorem t_mp6 (l : Launch) (d : Nat) {T : Nat} {Q : zi_Q} (g : g_Mod K RJ m) (hp : ∀ p ∈ ps, p < T) (hT : T ≤ 4) (hl : ps.length ≤ 63) :
    ∀ (j i : Nat) (s : ws_S) (xs ys : List Nat) (I : zi_I), i + j = ps.length → md_W I m s → aA I (m + 13) (xs ++ ys) → (xs ++ ys).length = 4 → (∀ x ∈ xs ++ ys, x < 4) → (∀ p, p < T → p ∈ xs) → aL I m 28 (m + 12) ps → ws_n (sp_picks (fun i => ps.getD i 0) s xs i j) ≤ 8 * 8000 →
      (∀ I2, md_W I2 m (sp_picks (fun i => ps.getD i 0) s xs i j) → zg m [5, 11] [m + 3, m + 13] I I2 → Q none I2) →
      zi_X l (zx_rm (d + 1) 0 0) M_Mod_writePicks K RJ Q 6 [(0, .ref m), (1, .int (nI i))] [] I := by
  intro j
  induction j with
  | zero =>
    intro i s xs ys I hi a ao hol hob hx al hn hq
    refine r_Mod_writePicks_6 l d m _ g.1 ⟨fun _ => hq I a zg_refl, fun c => ?_⟩
    rw [al.1, nI_leI (by omega) (by omega)] at c
    omega
  | succ j ih =>
    intro i s xs ys I hi a ao hol hob hx al hn hq
    refine r_Mod_writePicks_6 l d m _ g.1 ⟨fun c => ?_, fun _ => ?_⟩
    · rw [al.1, nI_leI (by omega) (by omega)] at c
      omega
    · have hpi : ps.getD i 0 < T := by
        rw [List.getD_eq_getElem?_getD, List.getElem?_eq_getElem (by omega)]
        exact hp _ (List.getElem_mem (by omega))
      have hm := hx _ hpi
      have hk := ix_lt hm
      have hix := ix_app (ys := ys) hm
      have hol2 : xs.length ≤ 4 := by rw [List.length_append] at hol; omega
      refine t_mp16 (p := ps.getD i 0) l d g ao hol hob (List.mem_append_left _ hm) (by omega) (al.2 i (by omega)) ?_ (ix (ps.getD i 0) (xs ++ ys)) 0 (by omega)
      rw [hix]
      have hn1 : ws_n (sp_pick s (ix (ps.getD i 0) xs)) ≤ 8 * 8000 := Nat.le_trans (ws_n_picks (fun i => ps.getD i 0) j _ (mv_to xs (ix (ps.getD i 0) xs)) (i + 1)) hn
      have z0 : zg m [5, 11] [m + 3, m + 13] I (mvF I (m + 13) (ix (ps.getD i 0) xs)) := zg_mvF (by simp) (by omega)
      have a2 : md_W (mvF I (m + 13) (ix (ps.getD i 0) xs)) m s := a.keep (F := []) (S := [m + 13]) (zg_mvF (by simp) (by omega)) (by simp) (by simp) (by simp)
      refine t_mp46 l d g (by omega) (nI_pos (by omega)) (ix (ps.getD i 0) xs) 0 s _ (by omega) a2 hn1 (fun I3 y1 y2 => ?_)
      rw [nI_1]
      have ao2 := mvF_aA ao (k := ix (ps.getD i 0) xs) (by rw [List.length_append]; omega)
      rw [mv_app hk] at ao2
      refine ih (i + 1) _ (mv_to xs (ix (ps.getD i 0) xs)) ys I3 (by omega) y1 (fun c hc => by rw [zg_cell y2 (by omega) (by simp)]; exact ao2 c hc) (by rw [List.length_append, mv_len hk, ← List.length_append]; exact hol) (fun x h => hob x ((List.mem_append.mp h).elim (fun h => List.mem_append_left _ (mv_mem hk h)) (fun h => List.mem_append_right _ h))) (fun p h => mv_mem2 hk (hx p h)) ⟨?_, fun c hc => ?_⟩ hn (fun I4 u1 u2 => hq I4 u1 (zg_trans z0 (zg_trans (zg_mono y2 (by simp) (by simp)) u2)))
      · rw [y2.1 28 (by simp), z0.1 28 (by simp)]
        exact al.1
      · rw [zg_cell y2 (by omega) (by simp), zg_cell z0 (by omega) (by simp)]
        exact al.2 c hc
theorem c_mwritePicks (l : Launch) (d : Nat) {T : Nat} {I : zi_I} {s : ws_S} (g : g_Mod K RJ m) (hp : ∀ p ∈ ps, p < T) (hT : T ≤ 4) (hl : ps.length ≤ 63) (a : md_W I m s) (al : aL I m 28 (m + 12) ps) (hn : ws_n (sp_picks (fun i => ps.getD i 0) s (List.range T) 0 ps.length) ≤ 8 * 8000) :
    zi_C l (zx_rm (d + 1) 0 0) M_Mod_writePicks [.ref m] K RJ I (fun r I2 => r = none ∧ md_W I2 m (sp_picks (fun i => ps.getD i 0) s (List.range T) 0 ps.length) ∧ zg m [5, 11] [m + 3, m + 13] I I2) := by
  refine zi_of (by decide) (fun α => Nat.le_of_ble_eq_true rfl) (r_Mod_writePicks_0 l d m g.1 (zi_mono (c_beginOrder l d g) ?_))
  rintro r I2 ⟨rfl, rfl⟩
  have z0 : zg m [] [m + 13] I (fun c i => if c = m + 13 ∧ i < 4 then nI i else I c i) := ⟨fun j _ => by dsimp only; rw [if_neg (by omega)], fun c hc => by
    funext i
    have : c ≠ m + 13 := fun e => hc (by simp [e])
    simp [this]⟩
  have hr : List.range T ++ (List.range (4 - T)).map (T + ·) = List.range 4 := by
    rw [← List.range_add]
    congr 1
    omega
  refine ⟨rfl, t_mp6 l d g hp hT hl ps.length 0 s (List.range T) ((List.range (4 - T)).map (T + ·)) _ (by omega) (a.keep z0 (by simp) (by simp) (by simp)) ?_ (by rw [hr]; rfl) (by rw [hr]; decide) (fun p h => List.mem_range.mpr h) ⟨?_, fun c hc => ?_⟩ hn (fun I3 u1 u2 => ⟨rfl, u1, zg_trans (zg_mono z0 (by simp) (by simp)) u2⟩)⟩
  · rw [hr]
    intro i hi
    rw [List.length_range] at hi
    dsimp only
    rw [if_pos ⟨rfl, hi⟩]
    simp [List.getD_eq_getElem?_getD, hi]
  · dsimp only
    rw [if_neg (by omega)]
    exact al.1
  · dsimp only
    rw [if_neg (by omega)]
    exact al.2 c hc
end MP
