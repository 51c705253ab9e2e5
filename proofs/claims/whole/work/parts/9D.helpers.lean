/-! The law's helpers: a call, its answer kept, its throw caught. -/
def hp_P (K : zx_Kt) (RJ : zx_RJ) (o : Nat) (I : zi_I) (s : ab_S) (c : zx_RJ → Prop) (k : Nat) (r : Option Value) (h2 : zx_H) : Prop := r = some (.int (nI k)) ∧ ∃ (I2 : zi_I) (RJ2 : zx_RJ) (tl nx : Nat), h2 = (K, I2, RJ2) ∧ g_Main K RJ2 o tl nx ∧ (∀ q, q ≠ o → RJ2.1 q = RJ.1 q) ∧ a_C I2 o tl s ∧ zf (List.range' o 102) I I2 ∧ (k = 0 → c RJ2)
theorem hp_thr {K : zx_Kt} {RJ : zx_RJ} {o : Nat} {I : zi_I} {s : ab_S} {c : zx_RJ → Prop} {k : Nat} {h2 : zx_H} (hk : k ≠ 0) (h : cls_P K RJ o I s h2) : hp_P K RJ o I s c k (some (.int (nI k))) h2 := by
  obtain ⟨I2, RJ2, tl, nx, h1, h2, h3, h4, h5, h6⟩ := h
  exact ⟨rfl, I2, RJ2, tl, nx, h1, h2, h4, h5, h6, fun z => absurd z hk⟩
section LH
variable {l : Launch} {M : zx_M} {Z : zx_Zt} {pc : Nat} {L : List (Nat × Value)} {S : List Value} {K : zx_Kt} {RJ : zx_RJ} {I : zi_I} {P : Option Value → zx_H → Prop}
theorem zx_callTk {M2 : zx_M} {b idx n ci hp na : Nat} {As S2 : List Value} {cls : String} {Q2 : zx_H → Prop} {hh : List (Nat × Nat × Nat × Nat)} (hC : zx_CT l (zx_rm 7 1 6) M2 (.ref b :: As) (K, I, RJ) cls Q2) (lk : zi_lkV M.1.cls idx M2 n ci) (lk2 : Cond.methodLink M.1.cls idx M2.1 ∈ zx_T) (kd : (K.2 b).1 = ci + 5) (hci : ci < 90) (hn : As.length = n) (hS : S = As.reverse ++ .ref b :: S2) (hW : (S2.map fun v => v.category).sum ≤ 8) (hm : M2.2.2.1 ≤ 21) (d : decode M.2.1 pc = .ok (.invokevirtual idx, 3)) (hpk : th_pick M.1.cls hh pc cls hp) (ha : th_ast M hp na)
    (k : ∀ h2, Q2 h2 → zx_X l (zx_rm 8 1 6) M false 1 6 (zx_Zc (some hh) Z) (hp + na) [] [] h2) : zx_X l (zx_rm 8 1 6) M false 0 0 (zx_Zc (some hh) Z) pc L S (K, I, RJ) := by
  obtain ⟨l1, l2, l3, T, N, l4⟩ := lk
  refine zx_callT (h := (K, I, RJ)) hC l1 lk2 l2 l3 hn kd hci l4 hS hW ⟨Nat.le_refl _, ?_⟩ ⟨Nat.le_refl _, Nat.le_refl _⟩ d hpk ha (fun h2 hq => ?_)
  · show 8 + (M2.2.2.1 + 11) + 40 * 7 ≤ 40 * 8
    omega
  · have := k h2 hq
    rw [show (0 : Nat) + (zx_rm 7 1 6).cells = 1 from rfl, show (0 : Nat) + (zx_rm 7 1 6).slots = 6 from rfl]
    exact this
theorem lh_ret {tg ou : Nat} {off : Int} {v : Int32} (hM : M.2.2.2 = some .int) (d1 : decode M.2.1 pc = .ok (.i2l, 1)) (d2 : decode M.2.1 (pc + 1) = .ok (.lastore, 1)) (d3 : decode M.2.1 (pc + 2) = .ok (.goto off, 3)) (ht : ((pc + 2 : Nat) : Int) + off = (tg : Int)) (d4 : decode M.2.1 tg = .ok (.iconst 0, 1)) (d5 : decode M.2.1 (tg + 1) = .ok (.ireturn, 1)) (kd : K.2 ou = (2, 1)) (hp : P (some (.int 0)) (K, I, (RJ.1, zx_u2 RJ.2 ou 0 v.toInt64))) :
    zx_X l (zx_rm 8 1 6) M false 0 0 (zx_Zr false (zx_rm 8 1 6) P) pc L [.int v, .int 0, .ref ou] (K, I, RJ) := by
  refine zx_i2l d1 ?_
  refine zx_last (h := (K, I, RJ)) 0 kd rfl (by decide) d2 ?_
  refine zx_goto d3 ht ?_
  refine zx_iconst d4 (v := 0) (by decide) ?_
  exact zx_iret d5 hM hp (Nat.zero_le _) (Nat.zero_le _) (fun q => absurd q (by decide))
theorem lh_thr {k : Int} {v : Int32} {h2 : zx_H} (hM : M.2.2.2 = some .int) (d4 : decode M.2.1 pc = .ok (.iconst k, 1)) (hv : Int32.ofInt k = v) (d5 : decode M.2.1 (pc + 1) = .ok (.ireturn, 1)) (hp : P (some (.int v)) h2) :
    zx_X l (zx_rm 8 1 6) M false 1 6 (zx_Zr false (zx_rm 8 1 6) P) pc L [] h2 := by
  refine zx_iconst d4 hv ?_
  exact zx_iret d5 hM hp (Nat.le_refl _) (Nat.le_refl _) (fun q => absurd q (by decide))
end LH
section LF
variable {K : zx_Kt} {RJ : zx_RJ} {o tl nx ou : Nat} {s : ab_S} {I : zi_I}
theorem hp_ret {v : Int32} {h2 : zx_H} (hou : o + 101 < ou) (h : cls_P K RJ o I s h2) : ∃ (I2 : zi_I) (RJ2 : zx_RJ), h2 = (K, I2, RJ2) ∧ hp_P K RJ o I s (fun RJ3 => RJ3.2 ou 0 = v.toInt64) 0 (some (.int 0)) (K, I2, (RJ2.1, zx_u2 RJ2.2 ou 0 v.toInt64)) := by
  obtain ⟨I2, RJ2, tl, nx, h1, h2, h3, h4, h5, h6⟩ := h
  exact ⟨I2, RJ2, h1, rfl, I2, _, tl, nx, rfl, h2.j rfl, h4, h5, h6, fun _ => by show zx_u2 RJ2.2 ou 0 v.toInt64 ou 0 = _; rw [zx_u2_s]⟩
set_option maxRecDepth 20000 in
theorem h_feed (l : Launch) {w : Int64} {x : Int32} (htr : l.flags = pinnedFlags ++ [noTraceFlag]) (g : g_Main K RJ o tl nx) (a : a_C I o tl s) (ko : K.2 ou = (2, 1)) (hou : o + 101 < ou) :
    zx_CW l (zx_rm 8 1 6) M_Law_feed h_Law_feed [.ref o, .long w, .int x, .ref ou] (K, I, RJ) (hp_P K RJ o I (op_feed s w x).2.2 (fun RJ2 => RJ2.2 ou 0 = (op_feed s w x).2.1.toInt64) (op_feed s w x).1) := by
  refine zx_CW.of (by decide) (fun α => Nat.le_of_ble_eq_true rfl) ?_
  refine zx_aload d_Law_feed_0 rfl ?_
  refine zx_iconst d_Law_feed_2 (v := 0) (by decide) ?_
  refine zx_aload_n d_Law_feed_3 rfl ?_
  refine zx_lload_n d_Law_feed_4 rfl ?_
  refine zx_iload_n d_Law_feed_5 rfl ?_
  by_cases c1 : x < 1 ∨ ¬ x ≤ 8
  · have e : op_feed s w x = (1, 0, s) := by unfold op_feed; rw [if_pos c1]
    rw [e]
    refine zx_callTk (c_feed_thr1 l htr g a c1) k_Law_7 kl_Law_7 g.k (by decide) rfl rfl (Nat.le_of_ble_eq_true rfl) (Nat.le_of_ble_eq_true rfl) d_Law_feed_6 ⟨[], 0, 11, 13, [(0, 11, 18, 15)], rfl, by decide, by decide, by decide, kx_Law_13, ky_IllegalArgumentException, fun y hy => absurd hy List.not_mem_nil⟩ (Or.inr ⟨5, d_Law_feed_14, by decide, rfl⟩) (fun h2 hq => ?_)
    exact zx_weakc (lh_thr rfl d_Law_feed_16 (v := nI 1) (by decide) d_Law_feed_17 (hp_thr (by dsimp only; decide) hq))
  by_cases c2 : 400 < s.1.length + x.toBitVec.toNat
  · have e : op_feed s w x = (2, 0, s) := by unfold op_feed; rw [if_neg c1, if_pos c2]
    rw [e]
    refine zx_callTk (c_feed_thr2 l htr g a c1 c2) k_Law_7 kl_Law_7 g.k (by decide) rfl rfl (Nat.le_of_ble_eq_true rfl) (Nat.le_of_ble_eq_true rfl) d_Law_feed_6 ⟨[(0, 11, 14, 13)], 0, 11, 15, [], rfl, by decide, by decide, by decide, kx_Law_15, ky_UnsupportedOperationException, fun y hy => ?_⟩ (Or.inr ⟨5, d_Law_feed_18, by decide, rfl⟩) (fun h2 hq => ?_)
    · rw [List.mem_singleton] at hy
      subst hy
      exact ⟨by decide, kx_Law_13, rfl⟩
    · exact zx_weakc (lh_thr rfl d_Law_feed_20 (v := nI 2) (by decide) d_Law_feed_21 (hp_thr (by dsimp only; decide) hq))
  · have e : (op_feed s w x).1 = 0 := by unfold op_feed; rw [if_neg c1, if_neg c2]
    refine zx_weakc (zx_callVk (c_feed_ret l g a e) k_Law_7 g.k (by decide) rfl rfl (Nat.le_of_ble_eq_true rfl) (Nat.le_of_ble_eq_true rfl) d_Law_feed_6 ?_)
    rintro r h2 ⟨rfl, hp⟩
    obtain ⟨I2, RJ2, rfl, hp2⟩ := hp_ret (v := (op_feed s w x).2.1) hou hp
    rw [e]
    exact lh_ret rfl d_Law_feed_9 d_Law_feed_10 d_Law_feed_11 rfl d_Law_feed_22 d_Law_feed_23 ko hp2
set_option maxRecDepth 20000 in
theorem h_keep (l : Launch) {x : Int32} (htr : l.flags = pinnedFlags ++ [noTraceFlag]) (g : g_Main K RJ o tl nx) (a : a_C I o tl s) :
    zx_CW l (zx_rm 8 1 6) M_Law_keep h_Law_keep [.ref o, .int x] (K, I, RJ) (hp_P K RJ o I (op_keep s x).2.2 (fun RJ2 => RJ2.2 = RJ.2) (op_keep s x).1) := by
  refine zx_CW.of (by decide) (fun α => Nat.le_of_ble_eq_true rfl) ?_
  refine zx_aload_n d_Law_keep_0 rfl ?_
  refine zx_iload_n d_Law_keep_1 rfl ?_
  by_cases c1 : x < 0 ∨ ¬ x ≤ nI s.1.length
  · have e : op_keep s x = (1, 0, s) := by unfold op_keep; rw [if_pos c1]
    rw [e]
    refine zx_callTk (c_keep_thr l htr g a c1) k_Law_17 kl_Law_17 g.k (by decide) rfl rfl (Nat.le_of_ble_eq_true rfl) (Nat.le_of_ble_eq_true rfl) d_Law_keep_2 ⟨[], 0, 5, 13, [], rfl, by decide, by decide, by decide, kx_Law_13, ky_IllegalArgumentException, fun y hy => absurd hy List.not_mem_nil⟩ (Or.inl ⟨2, d_Law_keep_8, by decide, rfl⟩) (fun h2 hq => ?_)
    exact zx_weakc (lh_thr rfl d_Law_keep_9 (v := nI 1) (by decide) d_Law_keep_10 (hp_thr (by dsimp only; decide) hq))
  · have e : op_keep s x = (0, 0, (s.1.take x.toBitVec.toNat, s.2)) := by unfold op_keep; rw [if_neg c1]
    rw [e]
    refine zx_weakc (zx_callVk (c_keep_ret l g a c1) k_Law_17 g.k (by decide) rfl rfl (Nat.le_of_ble_eq_true rfl) (Nat.le_of_ble_eq_true rfl) d_Law_keep_2 ?_)
    rintro r h2 ⟨rfl, I2, RJ2, tl2, nx2, rfl, h2, h3, h4, h5, h6⟩
    refine zx_goto d_Law_keep_5 (tgt := 11) rfl ?_
    refine zx_iconst d_Law_keep_11 (v := 0) (by decide) ?_
    exact zx_iret d_Law_keep_12 rfl ⟨rfl, I2, RJ2, tl2, nx2, rfl, h2, h4, h5, h6, fun _ => h3⟩ (Nat.zero_le _) (Nat.zero_le _) (fun q => absurd q (by decide))
set_option maxRecDepth 20000 in
theorem h_damage (l : Launch) {x : Int32} (htr : l.flags = pinnedFlags ++ [noTraceFlag]) (g : g_Main K RJ o tl nx) (a : a_C I o tl s) :
    zx_CW l (zx_rm 8 1 6) M_Law_damage h_Law_damage [.ref o, .int x] (K, I, RJ) (hp_P K RJ o I (op_damage s x).2.2 (fun RJ2 => RJ2.2 = RJ.2) (op_damage s x).1) := by
  refine zx_CW.of (by decide) (fun α => Nat.le_of_ble_eq_true rfl) ?_
  refine zx_aload_n d_Law_damage_0 rfl ?_
  refine zx_iload_n d_Law_damage_1 rfl ?_
  by_cases c1 : x < 0 ∨ ¬ x < nI (8 * s.1.length)
  · have e : op_damage s x = (1, 0, s) := by unfold op_damage; rw [if_pos c1]
    rw [e]
    refine zx_callTk (c_damage_thr l htr g a c1) k_Law_21 kl_Law_21 g.k (by decide) rfl rfl (Nat.le_of_ble_eq_true rfl) (Nat.le_of_ble_eq_true rfl) d_Law_damage_2 ⟨[], 0, 5, 24, [], rfl, by decide, by decide, by decide, kx_Law_24, ky_IndexOutOfBoundsException, fun y hy => absurd hy List.not_mem_nil⟩ (Or.inl ⟨2, d_Law_damage_8, by decide, rfl⟩) (fun h2 hq => ?_)
    exact zx_weakc (lh_thr rfl d_Law_damage_9 (v := nI 1) (by decide) d_Law_damage_10 (hp_thr (by dsimp only; decide) hq))
  · have e : op_damage s x = (0, 0, (dm s.1 x.toBitVec.toNat, s.2)) := by unfold op_damage; rw [if_neg c1]
    rw [e]
    refine zx_weakc (zx_callVk (c_damage_ret l g a c1) k_Law_21 g.k (by decide) rfl rfl (Nat.le_of_ble_eq_true rfl) (Nat.le_of_ble_eq_true rfl) d_Law_damage_2 ?_)
    rintro r h2 ⟨rfl, I2, RJ2, tl2, nx2, rfl, h2, h3, h4, h5, h6⟩
    refine zx_goto d_Law_damage_5 (tgt := 11) rfl ?_
    refine zx_iconst d_Law_damage_11 (v := 0) (by decide) ?_
    exact zx_iret d_Law_damage_12 rfl ⟨rfl, I2, RJ2, tl2, nx2, rfl, h2, h4, h5, h6, fun _ => h3⟩ (Nat.zero_le _) (Nat.zero_le _) (fun q => absurd q (by decide))
set_option maxRecDepth 20000 in
theorem h_append (l : Launch) (htr : l.flags = pinnedFlags ++ [noTraceFlag]) (g : g_Main K RJ o tl nx) (a : a_C I o tl s) (ko : K.2 ou = (2, 1)) (hou : o + 101 < ou) :
    zx_CW l (zx_rm 8 1 6) M_Law_append h_Law_append [.ref o, .ref ou] (K, I, RJ) (hp_P K RJ o I (op_append s).2.2 (fun RJ2 => RJ2.2 ou 0 = (op_append s).2.1.toInt64) (op_append s).1) := by
  refine zx_CW.of (by decide) (fun α => Nat.le_of_ble_eq_true rfl) ?_
  refine zx_aload_n d_Law_append_0 rfl ?_
  refine zx_iconst d_Law_append_1 (v := 0) (by decide) ?_
  refine zx_aload_n d_Law_append_2 rfl ?_
  by_cases c1 : 400 < s.1.length + s.2.1.length
  · have e : op_append s = (1, 0, s) := by unfold op_append; rw [if_pos c1]
    rw [e]
    refine zx_callTk (c_append_thr l htr g a c1) k_Law_26 kl_Law_26 g.k (by decide) rfl rfl (Nat.le_of_ble_eq_true rfl) (Nat.le_of_ble_eq_true rfl) d_Law_append_3 ⟨[], 0, 8, 15, [], rfl, by decide, by decide, by decide, kx_Law_15, ky_UnsupportedOperationException, fun y hy => absurd hy List.not_mem_nil⟩ (Or.inl ⟨2, d_Law_append_11, by decide, rfl⟩) (fun h2 hq => ?_)
    exact zx_weakc (lh_thr rfl d_Law_append_12 (v := nI 1) (by decide) d_Law_append_13 (hp_thr (by dsimp only; decide) hq))
  · have e : op_append s = (0, nI (s.1.length + s.2.1.length), (s.1 ++ s.2.1, s.2)) := by unfold op_append; rw [if_neg c1]
    rw [e]
    refine zx_weakc (zx_callVk (c_append_ret l g a c1) k_Law_26 g.k (by decide) rfl rfl (Nat.le_of_ble_eq_true rfl) (Nat.le_of_ble_eq_true rfl) d_Law_append_3 ?_)
    rintro r h2 ⟨rfl, hp⟩
    obtain ⟨I2, RJ2, rfl, hp2⟩ := hp_ret (v := nI (s.1.length + s.2.1.length)) hou hp
    exact lh_ret rfl d_Law_append_6 d_Law_append_7 d_Law_append_8 rfl d_Law_append_14 d_Law_append_15 ko hp2
set_option maxRecDepth 20000 in
theorem h_pack (l : Launch) {x : Int32} (htr : l.flags = pinnedFlags ++ [noTraceFlag]) (g : g_Main K RJ o tl nx) (a : a_C I o tl s) (ko : K.2 ou = (2, 1)) (hou : o + 101 < ou) :
    zx_CW l (zx_rm 8 1 6) M_Law_pack h_Law_pack [.ref o, .int x, .ref ou] (K, I, RJ) (hp_P K RJ o I (op_pack s x).2.2 (fun RJ2 => RJ2.2 ou 0 = (op_pack s x).2.1.toInt64) (op_pack s x).1) := by
  refine zx_CW.of (by decide) (fun α => Nat.le_of_ble_eq_true rfl) ?_
  refine zx_aload_n d_Law_pack_0 rfl ?_
  refine zx_iconst d_Law_pack_1 (v := 0) (by decide) ?_
  refine zx_aload_n d_Law_pack_2 rfl ?_
  refine zx_iload_n d_Law_pack_3 rfl ?_
  by_cases c1 : x < 1 ∨ ¬ x ≤ 8
  · have e : op_pack s x = (1, 0, s) := by unfold op_pack; rw [if_pos c1]
    rw [e]
    refine zx_callTk (c_pack_thr l htr g a c1) k_Law_30 kl_Law_30 g.k (by decide) rfl rfl (Nat.le_of_ble_eq_true rfl) (Nat.le_of_ble_eq_true rfl) d_Law_pack_4 ⟨[], 0, 9, 13, [], rfl, by decide, by decide, by decide, kx_Law_13, ky_IllegalArgumentException, fun y hy => absurd hy List.not_mem_nil⟩ (Or.inl ⟨3, d_Law_pack_12, by decide, rfl⟩) (fun h2 hq => ?_)
    exact zx_weakc (lh_thr rfl d_Law_pack_13 (v := nI 1) (by decide) d_Law_pack_14 (hp_thr (by dsimp only; decide) hq))
  · have hC := c_pack_ret l g a c1
    have e : op_pack s x = (0, nI (pk_all s.1 x.toBitVec.toNat s.2.2.2.2).1.length, (s.1, (pk_all s.1 x.toBitVec.toNat s.2.2.2.2).1, s.2.2.1, (pk_all s.1 x.toBitVec.toNat s.2.2.2.2).2.1, (pk_all s.1 x.toBitVec.toNat s.2.2.2.2).2.2)) := by unfold op_pack; rw [if_neg c1]
    rw [e]
    generalize pk_all s.1 x.toBitVec.toNat s.2.2.2.2 = V at hC ⊢
    refine zx_weakc (zx_callVk hC k_Law_30 g.k (by decide) rfl rfl (Nat.le_of_ble_eq_true rfl) (Nat.le_of_ble_eq_true rfl) d_Law_pack_4 ?_)
    rintro r h2 ⟨rfl, hp⟩
    obtain ⟨I2, RJ2, rfl, hp2⟩ := hp_ret (v := nI V.1.length) hou hp
    exact lh_ret rfl d_Law_pack_7 d_Law_pack_8 d_Law_pack_9 rfl d_Law_pack_15 d_Law_pack_16 ko hp2
set_option maxRecDepth 20000 in
theorem h_unpack (l : Launch) (htr : l.flags = pinnedFlags ++ [noTraceFlag]) (g : g_Main K RJ o tl nx) (a : a_C I o tl s) (ko : K.2 ou = (2, 1)) (hou : o + 101 < ou) :
    zx_CW l (zx_rm 8 1 6) M_Law_unpack h_Law_unpack [.ref o, .ref ou] (K, I, RJ) (hp_P K RJ o I (op_unpack s).2.2 (fun RJ2 => RJ2.2 ou 0 = (op_unpack s).2.1.toInt64) (op_unpack s).1) := by
  refine zx_CW.of (by decide) (fun α => Nat.le_of_ble_eq_true rfl) ?_
  refine zx_aload_n d_Law_unpack_0 rfl ?_
  refine zx_iconst d_Law_unpack_1 (v := 0) (by decide) ?_
  refine zx_aload_n d_Law_unpack_2 rfl ?_
  by_cases c1 : (op_unpack s).1 = 0
  · refine zx_weakc (zx_callVk (c_unpack_ret l g a c1) k_Law_34 g.k (by decide) rfl rfl (Nat.le_of_ble_eq_true rfl) (Nat.le_of_ble_eq_true rfl) d_Law_unpack_3 ?_)
    rintro r h2 ⟨rfl, hp⟩
    obtain ⟨I2, RJ2, rfl, hp2⟩ := hp_ret (v := (op_unpack s).2.1) hou hp
    rw [c1]
    exact lh_ret rfl d_Law_unpack_6 d_Law_unpack_7 d_Law_unpack_8 rfl d_Law_unpack_14 d_Law_unpack_15 ko hp2
  · obtain ⟨hC, e1, e2⟩ := c_unpack_thr l htr g a c1
    refine zx_callTk hC k_Law_34 kl_Law_34 g.k (by decide) rfl rfl (Nat.le_of_ble_eq_true rfl) (Nat.le_of_ble_eq_true rfl) d_Law_unpack_3 ⟨[], 0, 8, 37, [], rfl, by decide, by decide, by decide, kx_Law_37, ky_IllegalStateException, fun y hy => absurd hy List.not_mem_nil⟩ (Or.inl ⟨2, d_Law_unpack_11, by decide, rfl⟩) (fun h2 hq => ?_)
    rw [e1]
    exact zx_weakc (lh_thr rfl d_Law_unpack_12 (v := nI 1) (by decide) d_Law_unpack_13 (hp_thr (by decide) hq))
set_option maxRecDepth 20000 in
theorem h_out (l : Launch) {x : Int32} (htr : l.flags = pinnedFlags ++ [noTraceFlag]) (g : g_Main K RJ o tl nx) (a : a_C I o tl s) (ko : K.2 ou = (2, 1)) (hou : o + 101 < ou) :
    zx_CW l (zx_rm 8 1 6) M_Law_out h_Law_out [.ref o, .int x, .ref ou] (K, I, RJ) (hp_P K RJ o I (op_out s x).2.2 (fun RJ2 => RJ2.2 ou 0 = (op_out s x).2.1.toInt64) (op_out s x).1) := by
  refine zx_CW.of (by decide) (fun α => Nat.le_of_ble_eq_true rfl) ?_
  refine zx_aload_n d_Law_out_0 rfl ?_
  refine zx_iconst d_Law_out_1 (v := 0) (by decide) ?_
  refine zx_aload_n d_Law_out_2 rfl ?_
  refine zx_iload_n d_Law_out_3 rfl ?_
  by_cases c1 : x < 0 ∨ ¬ x < nI s.2.1.length
  · have e : op_out s x = (1, 0, s) := by unfold op_out; rw [if_pos c1]
    rw [e]
    refine zx_callTk (c_out_thr l htr g a c1) k_Law_39 kl_Law_39 g.k (by decide) rfl rfl (Nat.le_of_ble_eq_true rfl) (Nat.le_of_ble_eq_true rfl) d_Law_out_4 ⟨[], 0, 9, 24, [], rfl, by decide, by decide, by decide, kx_Law_24, ky_IndexOutOfBoundsException, fun y hy => absurd hy List.not_mem_nil⟩ (Or.inl ⟨3, d_Law_out_12, by decide, rfl⟩) (fun h2 hq => ?_)
    exact zx_weakc (lh_thr rfl d_Law_out_13 (v := nI 1) (by decide) d_Law_out_14 (hp_thr (by dsimp only; decide) hq))
  · have e : op_out s x = (0, nI (s.2.1.getD x.toBitVec.toNat 0), s) := by unfold op_out; rw [if_neg c1]
    rw [e]
    refine zx_weakc (zx_callVk (c_out_ret l g a c1) k_Law_39 g.k (by decide) rfl rfl (Nat.le_of_ble_eq_true rfl) (Nat.le_of_ble_eq_true rfl) d_Law_out_4 ?_)
    rintro r h2 ⟨rfl, hp⟩
    obtain ⟨I2, RJ2, rfl, hp2⟩ := hp_ret (v := nI (s.2.1.getD x.toBitVec.toNat 0)) hou hp
    exact lh_ret rfl d_Law_out_7 d_Law_out_8 d_Law_out_9 rfl d_Law_out_15 d_Law_out_16 ko hp2
end LF
