/-! The reference's calls, one by one. -/
def mod_P (m : Nat) (I : zi_I) (k : Nat) (s : ab_S) (I2 : zi_I) : Prop := I2 m 0 = nI k ∧ a_M I2 m s ∧ zf (List.range' m 21) I I2
section MO
variable {K : zx_Kt} {RJ : zx_RJ} {m : Nat} {s : ab_S} {I I2 : zi_I}
theorem mg_zf {F S : List Nat} (z : zg m F S I I2) (hS : ∀ q ∈ S, m ≤ q ∧ q < m + 21) : zf (List.range' m 21) I I2 := zf_mono z.2 (fun q hq => by
  rw [rg_mem]
  rcases List.mem_cons.mp hq with h | h
  · omega
  · exact hS q h)
theorem mod_thr {k : Nat} (a : a_M I m s) : mod_P m I k s (zx_u2 I m 0 (nI k)) := ⟨zx_u2_s, a.thr, zf_u2 (by rw [rg_mem]; omega)⟩
theorem a_M.input {bs : List Nat} (a : a_M I m s) (z : zg m [0, 1] [m + 1] I I2) (r : a_In I2 m bs) : a_M I2 m (bs, s.2) := by
  obtain ⟨a1, a2, a3, a4, a5, a6, a7⟩ := a
  refine ⟨r, ⟨?_, fun i hi => ?_⟩, a3, ?_, ?_, a6, fun h => ⟨(a7 h).1.keep z (by simp) (by simp), (a7 h).2⟩⟩
  · rw [z.1 3 (by simp)]; exact a2.1
  · rw [zg_cell z (by omega) (by simp)]; exact a2.2 i hi
  · rw [z.1 10 (by simp)]; exact a4
  · rw [z.1 34 (by simp)]; exact a5
theorem mod_in {bs : List Nat} (a : a_M I m s) (z : zg m [0, 1] [m + 1] I I2) (r : a_In I2 m bs) (h : I2 m 0 = nI 0) : mod_P m I 0 (bs, s.2) I2 := ⟨h, a.input z r, mg_zf z (by simp)⟩
theorem t_mfd50 (l : Launch) (d : Nat) {w : Int64} {x3 : Int32} {Q : zi_Q} (g : g_Mod K RJ m) :
    ∀ (k : Nat) (bs : List Nat) (I : zi_I), k ≤ 8 → bs.length + k ≤ 400 → a_In I m bs → (∀ I2, a_In I2 m (bs ++ fd w k) → zg m [1] [m + 1] I I2 → Q (some (.int (nI (bs.length + k)))) I2) →
      zi_X l (zx_rm d 0 0) M_Mod_feed K RJ Q 50 [(0, .ref m), (1, .long w), (3, .int x3), (4, .int (nI k - 1))] [] I := by
  intro k
  induction k with
  | zero =>
    intro bs I hk hb a q
    refine r_Mod_feed_50 l d m _ _ _ g.1 g.inpR (by omega) g.inpK ⟨fun _ => ?_, fun c => absurd (by decide) c⟩
    rw [a.2.1]
    exact q I (by rw [show bs ++ fd w 0 = bs from List.append_nil bs]; exact a) zg_refl
  | succ k ih =>
    intro bs I hk hb a q
    rw [nI_pred]
    refine r_Mod_feed_50 l d m _ _ _ g.1 g.inpR (by omega) g.inpK ⟨fun c => absurd c (nI_pos (by omega)), fun _ => ⟨bs.length, a.2.1, by omega, ?_⟩⟩
    rw [fy_and, fy_eq, zi_m1, a.2.1, nI_1]
    have z : zg m [1] [m + 1] I (zx_u2 (zx_u2 I (m + 1) bs.length (nI (fy w k))) m 1 (nI (bs.length + 1))) := zg_trans (zg_arr (by simp) (by omega)) (zg_fld (by simp))
    refine ih (bs ++ [fy w k]) _ (by omega) (by rw [List.length_append, List.length_singleton]; omega) ⟨by rw [List.length_append, List.length_singleton]; omega, by rw [zx_u2_s, List.length_append, List.length_singleton], fun i hi => ?_, fun b hb2 => ?_⟩ (fun I3 a3 z3 => ?_)
    · rw [List.length_append, List.length_singleton] at hi
      rw [zx_u2_ne (by omega)]
      by_cases e : i = bs.length
      · rw [e, zx_u2_s, getD_snoc_eq]
      · rw [zx_u2_k e, getD_snoc_lt (by omega)]
        exact a.2.2.1 i (by omega)
    · rcases List.mem_append.mp hb2 with h | h
      · exact a.2.2.2 b h
      · rw [List.mem_singleton.mp h]
        exact fy_lt w k
    · have q2 := q I3 (by rw [List.append_assoc] at a3; exact a3) (zg_trans z z3)
      rw [List.length_append, List.length_singleton, show bs.length + 1 + k = bs.length + (k + 1) by omega]
      exact q2
theorem c_mfeed (l : Launch) (d : Nat) {w : Int64} {x : Int32} (g : g_Mod K RJ m) (a : a_M I m s) :
    zi_C l (zx_rm d 0 0) M_Mod_feed [.ref m, .long w, .int x] K RJ I (fun r I2 => r = some (.int (op_feed s w x).2.1) ∧ mod_P m I (op_feed s w x).1 (op_feed s w x).2.2 I2) := by
  have hb := a.1.1
  unfold op_feed
  refine zi_of (by decide) (fun α => Nat.le_of_ble_eq_true rfl) (r_Mod_feed_0 l d m _ _ g.1 ⟨fun c => ?_, fun c => ⟨fun c2 => ⟨fun c3 => ?_, fun c3 => ?_⟩, fun c2 => ?_⟩⟩)
  · rw [if_pos (Or.inl c)]
    exact ⟨fun z => absurd z (by decide), fun _ => ⟨rfl, mod_thr a⟩⟩
  · rw [if_neg (fun h => h.elim c (fun h => h c2))]
    obtain ⟨k, k1, e1, k3⟩ := nI_nn (x := x) (fun h => c (Int32.lt_trans h (by decide)))
    rw [e1, show (8 : Int32) = nI 8 from rfl, nI_leI (by omega) (by omega)] at c2
    rw [a.1.2.1, e1, nI_add, show (400 : Int32) = nI 400 from rfl, nI_leI (by omega) (by omega)] at c3
    rw [k3, if_neg (by omega), e1]
    refine ⟨fun _ => ?_, fun z => absurd rfl z⟩
    have z0 : zg m [0, 1] [m + 1] I (zx_u2 I m 0 0) := zg_fld (by simp)
    refine t_mfd50 l d g k s.1 _ c2 (by omega) (a.1.u2 (by decide)) (fun I2 a2 z2 => ⟨rfl, mod_in a (zg_trans z0 (zg_mono z2 (by simp) (by simp))) a2 ?_⟩)
    rw [z2.1 0 (by simp), zx_u2_s]
    rfl
  · rw [if_neg (fun h => h.elim c (fun h => h c2))]
    obtain ⟨k, k1, e1, k3⟩ := nI_nn (x := x) (fun h => c (Int32.lt_trans h (by decide)))
    rw [e1, show (8 : Int32) = nI 8 from rfl, nI_leI (by omega) (by omega)] at c2
    rw [a.1.2.1, e1, nI_add, show (400 : Int32) = nI 400 from rfl, nI_leI (by omega) (by omega)] at c3
    rw [k3, if_pos (by omega)]
    exact ⟨fun z => absurd z (by decide), fun _ => ⟨rfl, mod_thr a⟩⟩
  · rw [if_pos (Or.inr c2)]
    exact ⟨fun z => absurd z (by decide), fun _ => ⟨rfl, mod_thr a⟩⟩
theorem c_mkeep (l : Launch) (d : Nat) {x : Int32} (g : g_Mod K RJ m) (a : a_M I m s) :
    zi_C l (zx_rm d 0 0) M_Mod_keep [.ref m, .int x] K RJ I (fun r I2 => r = none ∧ mod_P m I (op_keep s x).1 (op_keep s x).2.2 I2) := by
  have hb := a.1.1
  unfold op_keep
  have bad : mod_P m I 1 s (zx_u2 (zx_u2 I m 0 1) m 1 (I m 1)) := by
    have e : zx_u2 (zx_u2 I m 0 1) m 1 (I m 1) = zx_u2 I m 0 1 := by
      funext q i
      by_cases h : q = m ∧ i = 1
      · obtain ⟨rfl, rfl⟩ := h
        rw [zx_u2_s, zx_u2_k (by decide)]
      · rw [zx_u2_ne h]
    rw [e]
    exact mod_thr a
  refine zi_of (by decide) (fun α => Nat.le_of_ble_eq_true rfl) (r_Mod_keep_0 l d m _ g.1 ⟨fun c => ?_, fun c => ⟨fun c2 => ?_, fun c2 => ?_⟩⟩)
  · rw [if_pos (Or.inl c)]
    exact ⟨fun _ => ⟨rfl, bad⟩, fun z => absurd z (by decide)⟩
  · rw [a.1.2.1] at c2
    rw [if_neg (fun h => h.elim c (fun h => h c2))]
    obtain ⟨k, k1, e1, k3⟩ := nI_nn c
    rw [e1, nI_leI (by omega) (by omega)] at c2
    rw [k3, e1]
    have z : zg m [0, 1] [m + 1] I (zx_u2 (zx_u2 I m 0 0) m 1 (nI k)) := zg_trans (zg_fld (by simp)) (zg_fld (by simp))
    have hlen : (s.1.take k).length = k := by rw [List.length_take]; omega
    refine ⟨fun z => absurd rfl z, fun _ => ⟨rfl, mod_in a z ⟨by omega, by rw [zx_u2_s, hlen], fun i hi => ?_, fun b hb2 => a.1.2.2.2 b (List.mem_of_mem_take hb2)⟩ ?_⟩⟩
    · rw [hlen] at hi
      rw [zx_u2_ne (by omega), zx_u2_ne (by omega), a.1.2.2.1 i (by omega)]
      congr 1
      simp only [List.getD_eq_getElem?_getD, List.getElem?_take_of_lt hi]
    · rw [zx_u2_k (by decide), zx_u2_s]
      rfl
  · rw [a.1.2.1] at c2
    rw [if_pos (Or.inr c2)]
    exact ⟨fun _ => ⟨rfl, bad⟩, fun z => absurd z (by decide)⟩
theorem c_mdamage (l : Launch) (d : Nat) {x : Int32} (g : g_Mod K RJ m) (a : a_M I m s) :
    zi_C l (zx_rm d 0 0) M_Mod_damage [.ref m, .int x] K RJ I (fun r I2 => r = none ∧ mod_P m I (op_damage s x).1 (op_damage s x).2.2 I2) := by
  have hb := a.1.1
  have e8 : (8 : Int32) * nI s.1.length = nI (8 * s.1.length) := by rw [show (8 : Int32) = nI 8 from rfl, pk_mul]
  unfold op_damage
  refine zi_of (by decide) (fun α => Nat.le_of_ble_eq_true rfl) (r_Mod_damage_0 l d m _ g.1 g.inpR (by omega) g.inpK ⟨fun c => ?_, fun c => ⟨fun c2 => ?_, fun c2 => ?_⟩⟩)
  · rw [if_pos (Or.inl c)]
    exact ⟨fun _ => ⟨rfl, mod_thr a⟩, fun z => absurd z (by decide)⟩
  · rw [a.1.2.1, e8] at c2
    rw [if_neg (fun h => h.elim c (fun h => h c2))]
    obtain ⟨k, k1, e1, k3⟩ := nI_nn c
    rw [e1, nI_ltI (by omega) (by omega)] at c2
    have ed : nI k / 8 = nI (k / 8) := pk_div (d := 8) (by omega) (by omega) (by omega)
    have em : nI k - nI k / 8 * 8 = nI (k % 8) := pk_rem (d := 8) (by omega) (by omega) (by omega)
    rw [k3, e1]
    refine ⟨fun z => absurd rfl z, fun _ => ⟨k / 8, ed, by omega, k / 8, ed, by omega, rfl, ?_⟩⟩
    rw [em, dm_sr _ (Nat.mod_lt _ (by decide)), zx_u2_ne (by omega), a.1.2.2.1 (k / 8) (by omega), zb_xor]
    have z : zg m [0, 1] [m + 1] I (zx_u2 (zx_u2 I m 0 0) (m + 1) (k / 8) (nI (s.1.getD (k / 8) 0 ^^^ 2 ^ (7 - k % 8)))) := zg_trans (zg_fld (by simp)) (zg_arr (by simp) (by omega))
    refine mod_in a z ⟨by rw [dm_len]; exact hb, ?_, fun i hi => ?_, dm_lt a.1.2.2.2⟩ ?_
    · rw [dm_len, zx_u2_ne (by omega), zx_u2_k (by decide)]
      exact a.1.2.1
    · rw [dm_len] at hi
      rw [dm_get hi]
      by_cases e : i = k / 8
      · rw [if_pos e, e, zx_u2_s]
      · rw [if_neg e, zx_u2_k e, zx_u2_ne (by omega)]
        exact a.1.2.2.1 i hi
    · rw [zx_u2_ne (by omega), zx_u2_s]
      rfl
  · rw [a.1.2.1, e8] at c2
    rw [if_pos (Or.inr c2)]
    exact ⟨fun _ => ⟨rfl, mod_thr a⟩, fun z => absurd z (by decide)⟩
theorem t_map35 (l : Launch) (d : Nat) {Q : zi_Q} {bs os : List Nat} (g : g_Mod K RJ m) (ho : os.length ≤ 400) :
    ∀ (j k : Nat) (I : zi_I), k + j = os.length → bs.length + os.length ≤ 400 → I m 1 = nI bs.length → aL I m 3 (m + 2) os → (∀ i, i < bs.length + k → I (m + 1) i = nI ((bs ++ os).getD i 0)) →
      (∀ I2, I2 m 1 = nI (bs.length + os.length) → (∀ i, i < bs.length + os.length → I2 (m + 1) i = nI ((bs ++ os).getD i 0)) → zg m [1] [m + 1] I I2 → Q (some (.int (nI (bs.length + os.length)))) I2) →
      zi_X l (zx_rm d 0 0) M_Mod_append K RJ Q 35 [(0, .ref m), (1, .int (nI k))] [] I := by
  intro j
  induction j with
  | zero =>
    intro k I hk hl h1 ao h q
    refine r_Mod_append_35 l d m _ g.1 g.inpR (by omega) g.outRowR (by omega) g.outRowK g.inpK ⟨fun _ => ?_, fun c => absurd (by rw [ao.1]; exact nI_le (by omega) (by omega)) c⟩
    have e : I m 1 + I m 3 = nI (bs.length + os.length) := by rw [h1, ao.1, nI_add]
    rw [e]
    refine q _ zx_u2_s (fun i hi => ?_) (zg_fld (by simp))
    rw [zx_u2_ne (by omega)]
    exact h i (by omega)
  | succ j ih =>
    intro k I hk hl h1 ao h q
    refine r_Mod_append_35 l d m _ g.1 g.inpR (by omega) g.outRowR (by omega) g.outRowK g.inpK ⟨fun c => ?_, fun _ => ⟨k, rfl, by omega, bs.length + k, by rw [h1, nI_add], by omega, ?_⟩⟩
    · rw [ao.1, nI_leI (by omega) (by omega)] at c
      omega
    · rw [nI_1, ao.2 k (by omega)]
      have z : zg m [1] [m + 1] I (zx_u2 I (m + 1) (bs.length + k) (nI (os.getD k 0))) := zg_arr (by simp) (by omega)
      refine ih (k + 1) _ (by omega) hl (by rw [zx_u2_ne (by omega)]; exact h1) ⟨by rw [zx_u2_ne (by omega)]; exact ao.1, fun i hi => by rw [zx_u2_ne (by omega)]; exact ao.2 i hi⟩ (fun i hi => ?_) (fun I3 y1 y2 y3 => q I3 y1 y2 (zg_trans z y3))
      by_cases e : i = bs.length + k
      · rw [e, zx_u2_s]
        congr 1
        simp only [List.getD_eq_getElem?_getD]
        rw [List.getElem?_append_right (by omega), show bs.length + k - bs.length = k by omega]
      · rw [zx_u2_k e]
        exact h i (by omega)
theorem c_mappend (l : Launch) (d : Nat) (g : g_Mod K RJ m) (a : a_M I m s) (hos : ∀ b ∈ s.2.1, b < 256) :
    zi_C l (zx_rm d 0 0) M_Mod_append [.ref m] K RJ I (fun r I2 => r = some (.int (op_append s).2.1) ∧ mod_P m I (op_append s).1 (op_append s).2.2 I2) := by
  have hb := a.1.1
  have ho := a.2.2.1
  unfold op_append
  refine zi_of (by decide) (fun α => Nat.le_of_ble_eq_true rfl) (r_Mod_append_0 l d m g.1 ?_)
  rw [a.1.2.1, a.2.1.1, nI_add, show (400 : Int32) = nI 400 from rfl, nI_leI (by omega) (by omega)]
  refine ⟨fun c => ?_, fun c => ?_⟩
  · rw [if_neg (by omega)]
    refine ⟨fun _ => ?_, fun z => absurd rfl z⟩
    have z0 : zg m [0, 1] [m + 1] I (zx_u2 I m 0 0) := zg_fld (by simp)
    refine t_map35 (bs := s.1) (os := s.2.1) l d g (by omega) s.2.1.length 0 _ (by omega) c (by rw [zx_u2_k (by decide)]; exact a.1.2.1) ⟨by rw [zx_u2_k (by decide)]; exact a.2.1.1, fun i hi => by rw [zx_u2_ne (by omega)]; exact a.2.1.2 i hi⟩ (fun i hi => ?_) (fun I2 y1 y2 y3 => ⟨rfl, mod_in a (zg_trans z0 (zg_mono y3 (by simp) (by simp))) ⟨by rw [List.length_append]; exact c, by rw [List.length_append]; exact y1, fun i hi => y2 i (by rw [List.length_append] at hi; exact hi), fun b hb2 => ?_⟩ ?_⟩)
    · rw [zx_u2_ne (by omega), a.1.2.2.1 i (by omega)]
      congr 1
      simp only [List.getD_eq_getElem?_getD, List.getElem?_append_left (show i < s.1.length by omega)]
    · rcases List.mem_append.mp hb2 with h | h
      · exact a.1.2.2.2 b h
      · exact hos b h
    · rw [y3.1 0 (by simp), zx_u2_s]
      rfl
  · rw [if_pos (by omega)]
    exact ⟨fun z => absurd z (by decide), fun _ => ⟨rfl, mod_thr a⟩⟩
theorem c_mout (l : Launch) (d : Nat) {x : Int32} (g : g_Mod K RJ m) (a : a_M I m s) :
    zi_C l (zx_rm d 0 0) M_Mod_out [.ref m, .int x] K RJ I (fun r I2 => r = some (.int (op_out s x).2.1) ∧ mod_P m I (op_out s x).1 (op_out s x).2.2 I2) := by
  have ho := a.2.2.1
  unfold op_out
  refine zi_of (by decide) (fun α => Nat.le_of_ble_eq_true rfl) (r_Mod_out_0 l d m _ g.1 g.outRowR (by omega) g.outRowK ⟨fun c => ?_, fun c => ⟨fun c2 => ?_, fun c2 => ?_⟩⟩)
  · rw [if_pos (Or.inl c)]
    exact ⟨fun _ => ⟨rfl, mod_thr a⟩, fun z => absurd z (by decide)⟩
  · rw [a.2.1.1] at c2
    rw [if_neg (fun h => h.elim c (fun h => h c2))]
    obtain ⟨k, k1, e1, k3⟩ := nI_nn c
    rw [e1, nI_ltI (by omega) (by omega)] at c2
    rw [k3]
    exact ⟨fun z => absurd rfl z, fun _ => ⟨k, e1, by omega, by rw [zx_u2_ne (by omega), a.2.1.2 k c2], mod_thr a⟩⟩
  · rw [a.2.1.1] at c2
    rw [if_pos (Or.inr c2)]
    exact ⟨fun _ => ⟨rfl, mod_thr a⟩, fun z => absurd z (by decide)⟩
theorem c_mpack2 (l : Launch) {x : Int32} (g : g_Mod K RJ m) (a : a_M I m s) :
    zi_C l (zx_rm 7 0 0) M_Mod_pack [.ref m, .int x] K RJ I (fun r I2 => r = some (.int (op_pack s x).2.1) ∧ mod_P m I (op_pack s x).1 (op_pack s x).2.2 I2) := by
  unfold op_pack
  by_cases h0 : x < 1 ∨ ¬ x ≤ 8
  · rw [if_pos h0]
    have t12 : zi_X l (zx_rm 7 0 0) M_Mod_pack K RJ (fun r I2 => r = some (.int 0) ∧ mod_P m I 1 s I2) 12 [(0, .ref m), (1, .int x)] [.ref m] I := r_Mod_pack_12 l 6 m _ m (r_Mod_pack_17 l 6 m _ _ m g.1 g.1 ⟨fun c => absurd (zx_u2_s.symm.trans c) (by decide), fun _ => ⟨rfl, mod_thr a⟩⟩)
    refine zi_of (by decide) (fun α => Nat.le_of_ble_eq_true rfl) (r_Mod_pack_0 l 6 m _ ⟨fun _ => t12, fun c => ⟨fun c2 => ?_, fun _ => t12⟩⟩)
    exact (h0.elim c (fun h => h c2)).elim
  · rw [if_neg h0]
    obtain ⟨k, k1, e1, k3⟩ := nI_nn (x := x) (fun h => h0 (Or.inl (Int32.lt_trans h (by decide))))
    have h8 : k ≤ 8 := by
      have h : x ≤ 8 := Classical.byContradiction (fun h => h0 (Or.inr h))
      rw [e1, show (8 : Int32) = nI 8 from rfl, nI_leI (by omega) (by omega)] at h
      exact h
    have h7 : 1 ≤ k := by
      have h : ¬ x < 1 := fun h => h0 (Or.inl h)
      rw [e1, show (1 : Int32) = nI 1 from rfl, nI_ltI (by omega) (by omega)] at h
      omega
    rw [k3, e1]
    refine zi_mono (c_mpack (B := s.2.2.2.2) l 3 g h7 h8 a.1) ?_
    intro r I2 hp
    generalize pk_all s.1 k s.2.2.2.2 = V at hp ⊢
    obtain ⟨q1, q2, q3, q4, q5, q6, q7, q8⟩ := hp
    refine ⟨q1, q2, ⟨a.1.keepg q8 (by simp [mp_F, ml_F]) (by simp [mp_S]), q3, q4, ?_, q5, Nat.le_trans q6 (by decide), q7⟩, mg_zf q8 (by simp [mp_S])⟩
    rw [q8.1 10 (by simp [mp_F, ml_F])]
    exact a.2.2.2.1
theorem c_munpack2 (l : Launch) (g : g_Mod K RJ m) (a : a_M I m s) (hl : ∀ v, rd_all s.1 400 [] 0 s.2.2.2.2 0 = .inr v → v.1.1.length ≤ 4600 ∧ v.1.2.1 ≤ 4000) :
    zi_C l (zx_rm 7 0 0) M_Mod_unpack [.ref m] K RJ I (fun r I2 => r = some (.int (op_unpack s).2.1) ∧ mod_P m I (op_unpack s).1 (op_unpack s).2.2 I2) := by
  refine zi_mono (c_munpack (B := s.2.2.2.2) l 1 g a.1) ?_
  intro r I2 hp
  obtain ⟨a1, a2, a3, a4, a5, a6, a7⟩ := a
  unfold op_unpack
  cases e : rd_all s.1 400 [] 0 s.2.2.2.2 0 with
  | inl f =>
    rw [e] at hp
    obtain ⟨hc, z⟩ := hp
    have hz : zf (List.range' m 21) I I2 := mg_zf z (by unfold ms_S; simp)
    have k1 : a_In I2 m s.1 := a1.keepg z (by unfold ms_F; simp) (by unfold ms_S; simp)
    have k2 : aL I2 m 3 (m + 2) s.2.1 := ⟨by rw [z.1 3 (by unfold ms_F; simp)]; exact a2.1, fun i hi => by rw [zg_cell z (by omega) (by unfold ms_S; simp)]; exact a2.2 i hi⟩
    have k5 : I2 m 34 = nI s.2.2.2.1 := by rw [z.1 34 (by unfold ms_F; simp)]; exact a5
    have k7 : 0 < s.2.2.2.1 → a_ML I2 m s.2.2.2.2 ∧ bk_ok s.2.2.2.2 := fun h => ⟨(a7 h).1.keep z (by unfold ms_F; simp) (by unfold ms_S; simp), (a7 h).2⟩
    dsimp only
    rcases hc with ⟨c1, rfl, c3, c4⟩ | ⟨c1, c2, rfl, c4, c5⟩
    · rw [if_pos c1]
      exact ⟨rfl, c3, ⟨k1, k2, a3, c4, k5, a6, k7⟩, hz⟩
    · rw [if_neg c1]
      exact ⟨rfl, c4, ⟨k1, k2, a3, c5, k5, a6, k7⟩, hz⟩
  | inr v =>
    rw [e] at hp
    obtain ⟨rfl, p2, p3, p4, p5, p6, p7⟩ := hp
    exact ⟨rfl, p2, ⟨a1.keepg p7 (by unfold mu_F ms_F ml_F; simp) (by unfold mu_S ms_S; simp), p4, (hl v e).1, p3, p5, (hl v e).2, p6⟩, mg_zf p7 (by unfold mu_S ms_S; simp)⟩
theorem c_mrescue2 (l : Launch) (g : g_Mod K RJ m) (a : a_M I m s) :
    zi_C l (zx_rm 7 0 0) M_Mod_rescue [.ref m] K RJ I (fun r I2 => r = some (.int (op_rescue s).1) ∧ mod_P m I 0 (op_rescue s).2 I2) := by
  refine zi_mono (c_mrescue (B := s.2.2.2.2) l 2 g a.1) ?_
  rintro r I2 ⟨q1, q2, q3, q4, q5, q6, q7, q8, q9⟩
  refine ⟨q1, q2, ⟨a.1.keepg q8 (by unfold mu_F ms_F ml_F; simp) (by unfold mu_S ms_S; simp), q3, Nat.le_trans q4 (by decide), by rw [q9]; exact a.2.2.2.1, q5, Nat.le_trans q6 (by decide), q7⟩, mg_zf q8 (by unfold mu_S ms_S; simp)⟩
theorem c_mthrown (l : Launch) (d : Nat) (g : g_Mod K RJ m) : zi_C l (zx_rm d 0 0) M_Mod_thrown [.ref m] K RJ I (fun r I2 => r = some (.int (I m 0)) ∧ I2 = I) := zi_of (by decide) (fun α => Nat.le_of_ble_eq_true rfl) (r_Mod_thrown_0 l d m g.1 ⟨rfl, rfl⟩)
theorem c_mat (l : Launch) (d : Nat) (g : g_Mod K RJ m) (a : a_M I m s) : zi_C l (zx_rm d 0 0) M_Mod_at [.ref m] K RJ I (fun r I2 => r = some (.int s.2.2.1) ∧ mod_P m I 0 s I2) := zi_of (by decide) (fun α => Nat.le_of_ble_eq_true rfl) (r_Mod_at_0 l d m g.1 ⟨by rw [a.2.2.2.1], mod_thr a⟩)
theorem c_mgiven (l : Launch) (d : Nat) (g : g_Mod K RJ m) (a : a_M I m s) : zi_C l (zx_rm d 0 0) M_Mod_given [.ref m] K RJ I (fun r I2 => r = some (.int (nI s.1.length)) ∧ mod_P m I 0 s I2) := zi_of (by decide) (fun α => Nat.le_of_ble_eq_true rfl) (r_Mod_given_0 l d m g.1 ⟨by rw [a.1.2.1], mod_thr a⟩)
theorem c_msize (l : Launch) (d : Nat) (g : g_Mod K RJ m) (a : a_M I m s) : zi_C l (zx_rm d 0 0) M_Mod_size [.ref m] K RJ I (fun r I2 => r = some (.int (nI s.2.1.length)) ∧ mod_P m I 0 s I2) := zi_of (by decide) (fun α => Nat.le_of_ble_eq_true rfl) (r_Mod_size_0 l d m g.1 ⟨by rw [a.2.1.1], mod_thr a⟩)
theorem c_mblocks (l : Launch) (d : Nat) (g : g_Mod K RJ m) (a : a_M I m s) : zi_C l (zx_rm d 0 0) M_Mod_blocks [.ref m] K RJ I (fun r I2 => r = some (.int (nI s.2.2.2.1)) ∧ mod_P m I 0 s I2) := zi_of (by decide) (fun α => Nat.le_of_ble_eq_true rfl) (r_Mod_blocks_0 l d m g.1 ⟨by rw [a.2.2.2.2.1], mod_thr a⟩)
theorem c_mlast (l : Launch) (d : Nat) {x : Int32} (g : g_Mod K RJ m) (a : a_M I m s) : zi_C l (zx_rm d 0 0) M_Mod_last [.ref m, .int x] K RJ I (fun r I2 => r = some (.int (gl_of s.2.2.2.1 s.2.2.2.2.sh.length (fun i => s.2.2.2.2.co.getD i 0) x)) ∧ mod_P m I 0 s I2) := by
  have hm : mod_P m I 0 s (zx_u2 I m 0 0) := mod_thr a
  obtain ⟨-, -, -, -, h34, h8, hB⟩ := a
  refine zi_of (by decide) (fun α => Nat.le_of_ble_eq_true rfl) (r_Mod_last_0 l d m x g.1 g.lastColumnR (by omega) g.lastColumnK ?_)
  rw [n_eq0 h34 h8]
  unfold gl_of
  refine ⟨fun c => ⟨by rw [if_pos c], hm⟩, fun c => ?_⟩
  obtain ⟨⟨b1, b2, b3, b4, b5, b6, b7, b8, b9, b10, b11⟩, b0⟩ := hB (by omega)
  have hsh := b0.sh
  have hco := b0.co
  rw [if_neg c, b2]
  refine ⟨fun c2 => ⟨by rw [if_pos c2], hm⟩, fun c2 => ?_⟩
  rw [if_neg c2]
  obtain ⟨k, k1, rfl, k3⟩ := nI_nn c2
  rw [nI_ltI (by omega) (by omega), k3]
  refine ⟨fun c3 => ?_, fun c3 => ⟨by rw [if_pos (by rw [nI_leI (by omega) (by omega)]; omega)], hm⟩⟩
  rw [if_neg (by rw [nI_leI (by omega) (by omega)]; omega)]
  exact ⟨k, rfl, by omega, by rw [zx_u2_ne (by omega), b8 k (by omega)], hm⟩
theorem c_msymbol (l : Launch) (d : Nat) {x : Int32} (g : g_Mod K RJ m) (a : a_M I m s) : zi_C l (zx_rm d 0 0) M_Mod_symbol [.ref m, .int x] K RJ I (fun r I2 => r = some (.int (gl_of s.2.2.2.1 s.2.2.2.2.sl.length (fun i => s.2.2.2.2.sl.getD i 0) x)) ∧ mod_P m I 0 s I2) := by
  have hm : mod_P m I 0 s (zx_u2 I m 0 0) := mod_thr a
  obtain ⟨-, -, -, -, h34, h8, hB⟩ := a
  refine zi_of (by decide) (fun α => Nat.le_of_ble_eq_true rfl) (r_Mod_symbol_0 l d m x g.1 g.lastSymbolRowR (by omega) g.lastSymbolRowK ?_)
  rw [n_eq0 h34 h8]
  unfold gl_of
  refine ⟨fun c => ⟨by rw [if_pos c], hm⟩, fun c => ?_⟩
  obtain ⟨⟨b1, b2, b3, b4, b5, b6, b7, b8, b9, b10, b11⟩, b0⟩ := hB (by omega)
  have hsl := b0.sl
  rw [if_neg c, b3]
  refine ⟨fun c2 => ⟨by rw [if_pos c2], hm⟩, fun c2 => ?_⟩
  rw [if_neg c2]
  obtain ⟨k, k1, rfl, k3⟩ := nI_nn c2
  rw [nI_ltI (by omega) (by omega), k3]
  refine ⟨fun c3 => ?_, fun c3 => ⟨by rw [if_pos (by rw [nI_leI (by omega) (by omega)]; omega)], hm⟩⟩
  rw [if_neg (by rw [nI_leI (by omega) (by omega)]; omega)]
  exact ⟨k, rfl, by omega, by rw [zx_u2_ne (by omega), b9 k (by omega)], hm⟩
theorem c_mtable (l : Launch) (d : Nat) {x : Int32} (g : g_Mod K RJ m) (a : a_M I m s) : zi_C l (zx_rm d 0 0) M_Mod_table [.ref m, .int x] K RJ I (fun r I2 => r = some (.int (gl_of s.2.2.2.1 s.2.2.2.2.G s.2.2.2.2.pk x)) ∧ mod_P m I 0 s I2) := by
  have hm : mod_P m I 0 s (zx_u2 I m 0 0) := mod_thr a
  obtain ⟨-, -, -, -, h34, h8, hB⟩ := a
  refine zi_of (by decide) (fun α => Nat.le_of_ble_eq_true rfl) (r_Mod_table_0 l d m x g.1 g.lastPicksR (by omega) g.lastPicksK ?_)
  rw [n_eq0 h34 h8]
  unfold gl_of
  refine ⟨fun c => ⟨by rw [if_pos c], hm⟩, fun c => ?_⟩
  obtain ⟨⟨b1, b2, b3, b4, b5, b6, b7, b8, b9, b10, b11⟩, b0⟩ := hB (by omega)
  have hG := b0.G
  rw [if_neg c, b5]
  refine ⟨fun c2 => ⟨by rw [if_pos c2], hm⟩, fun c2 => ?_⟩
  rw [if_neg c2]
  obtain ⟨k, k1, rfl, k3⟩ := nI_nn c2
  rw [nI_ltI (by omega) (by omega), k3]
  refine ⟨fun c3 => ?_, fun c3 => ⟨by rw [if_pos (by rw [nI_leI (by omega) (by omega)]; omega)], hm⟩⟩
  rw [if_neg (by rw [nI_leI (by omega) (by omega)]; omega)]
  exact ⟨k, rfl, by omega, by rw [zx_u2_ne (by omega), b11 k (by omega)], hm⟩
theorem c_mlength (l : Launch) (d : Nat) {x y : Int32} (g : g_Mod K RJ m) (a : a_M I m s) : zi_C l (zx_rm d 0 0) M_Mod_length [.ref m, .int x, .int y] K RJ I (fun r I2 => r = some (.int (gl_len s x y)) ∧ mod_P m I 0 s I2) := by
  have hm : mod_P m I 0 s (zx_u2 I m 0 0) := mod_thr a
  obtain ⟨-, -, -, -, h34, h8, hB⟩ := a
  refine zi_of (by decide) (fun α => Nat.le_of_ble_eq_true rfl) (r_Mod_length_0 l d m x y g.1 g.lastLengthsR (by omega) g.lastLengthsK ?_)
  rw [n_eq0 h34 h8]
  unfold gl_len
  refine ⟨fun c => ⟨by rw [if_pos c], hm⟩, fun c => ?_⟩
  obtain ⟨⟨b1, b2, b3, b4, b5, b6, b7, b8, b9, b10, b11⟩, b0⟩ := hB (by omega)
  have hT := b0.T
  have hks := b0.ks
  rw [if_neg c, b4, b6, show (2 : Int32) = nI 2 from rfl, nI_add]
  refine ⟨fun c2 => ⟨by rw [if_pos c2], hm⟩, fun c2 => ?_⟩
  rw [if_neg c2]
  refine ⟨fun c3 => ⟨by rw [if_pos c3], hm⟩, fun c3 => ?_⟩
  rw [if_neg c3]
  refine ⟨fun c4 => ⟨by rw [if_pos c4], hm⟩, fun c4 => ?_⟩
  rw [if_neg c4]
  obtain ⟨k, k1, e1, k3⟩ := nI_nn c2
  obtain ⟨k', k1', e2, k3'⟩ := nI_nn c4
  rw [e1, nI_leI (by omega) (by omega)] at c3
  rw [k3, k3', e1, e2, nI_ltI (by omega) (by omega)]
  refine ⟨fun c5 => ?_, fun c5 => ⟨by rw [if_pos (by rw [nI_leI (by omega) (by omega)]; omega)], hm⟩⟩
  rw [if_neg (by rw [nI_leI (by omega) (by omega)]; omega)]
  exact ⟨260 * k + k', by rw [show (260 : Int32) = nI 260 from rfl, pk_mul, nI_add], by omega, by rw [zx_u2_ne (by omega), b10 k (by omega) k' (by omega)], hm⟩
theorem c_mblock (l : Launch) (d : Nat) {x : Int32} (g : g_Mod K RJ m) (a : a_M I m s) : zi_C l (zx_rm d 0 0) M_Mod_block [.ref m, .int x] K RJ I (fun r I2 => r = some (.int (gl_blk s x)) ∧ mod_P m I 0 s I2) := by
  have hm : mod_P m I 0 s (zx_u2 I m 0 0) := mod_thr a
  obtain ⟨-, -, -, -, h34, h8, hB⟩ := a
  refine zi_of (by decide) (fun α => Nat.le_of_ble_eq_true rfl) (r_Mod_block_0 l d m x g.1 ?_)
  rw [n_eq0 h34 h8]
  unfold gl_blk
  refine ⟨fun c => ?_, fun c => ⟨by rw [if_pos c], hm⟩⟩
  obtain ⟨⟨b1, b2, b3, b4, b5, b6, b7, b8, b9, b10, b11⟩, b0⟩ := hB (by omega)
  rw [if_neg c, b1, b2, b3, b4, b7]
  refine ⟨fun c0 => ⟨fun c1 => ⟨fun c2 => ⟨fun c3 => ⟨fun c4 => ⟨?_, hm⟩, fun c4 => ⟨?_, hm⟩⟩, fun c3 => ⟨?_, hm⟩⟩, fun c2 => ⟨?_, hm⟩⟩, fun c1 => ⟨?_, hm⟩⟩, fun c0 => ⟨?_, hm⟩⟩
  · rw [if_neg c0, if_neg c1, if_neg c2, if_neg c3, if_neg c4]
  · rw [if_neg c0, if_neg c1, if_neg c2, if_neg c3, if_pos c4]
  · rw [if_neg c0, if_neg c1, if_neg c2, if_pos c3]
  · rw [if_neg c0, if_neg c1, if_pos c2]
  · rw [if_neg c0, if_pos c1]
  · rw [if_pos c0]
end MO
