/-! The class's calls, one by one: damage, append, out, pack, unpack, rescue; at, given, size, blocks. -/
section CP
variable {K : zx_Kt} {RJ : zx_RJ} {o tl nx : Nat} {s : ab_S} {I I2 : zi_I}
theorem dm_sh : ∀ i : Nat, i < 8 → (1 : Int32) <<< ((7 - nI i) &&& 31) = nI (2 ^ (7 - i)) := by decide +kernel
theorem dm_sr : ∀ i : Nat, i < 8 → (128 : Int32) >>> (nI i &&& 31) = nI (2 ^ (7 - i)) := by decide +kernel
theorem dm_pow : ∀ i : Nat, i < 8 → 2 ^ (7 - i) < 2 ^ 8 := by decide
theorem dm_len (bs : List Nat) (k : Nat) : (dm bs k).length = bs.length := by simp [dm]
theorem dm_get {bs : List Nat} {k i : Nat} (hi : i < bs.length) : (dm bs k).getD i 0 = if i = k / 8 then bs.getD (k / 8) 0 ^^^ 2 ^ (7 - k % 8) else bs.getD i 0 := by
  unfold dm
  simp only [List.getD_eq_getElem?_getD, List.getElem?_set]
  by_cases e : k / 8 = i
  · subst e
    rw [if_pos rfl, if_pos hi, if_pos rfl]
    rfl
  · rw [if_neg e, if_neg (Ne.symm e)]
theorem dm_lt {bs : List Nat} {k : Nat} (hb : ∀ b ∈ bs, b < 256) : ∀ b ∈ dm bs k, b < 256 := by
  intro b hb2
  unfold dm at hb2
  rcases List.mem_or_eq_of_mem_set hb2 with h | h
  · exact hb b h
  · rw [h]
    have h1 : bs.getD (k / 8) 0 < 256 := by
      rw [List.getD_eq_getElem?_getD]
      cases h : bs[k / 8]? with
      | none => simp
      | some b => exact hb b (List.mem_of_getElem? h)
    exact Nat.xor_lt_two_pow (n := 8) h1 (dm_pow _ (Nat.mod_lt _ (by decide)))
theorem c_turnBit (l : Launch) (d : Nat) {q n k : Nat} {bs : List Nat} (g : g_Row K RJ q n) (hn : n ≤ 400) (a : a_Row I q n bs) (hk : k < 8 * bs.length) : zi_C l (zx_rm d 0 0) M_Row_turnBit [.ref q, .int (nI k)] K RJ I (fun r I2 => r = none ∧ a_Row I2 q n (dm bs k) ∧ zf [q, q + 1] I I2) := by
  have hb := a.1
  have e8 : nI k / 8 = nI (k / 8) := pk_div (d := 8) (by omega) (by omega) (by omega)
  have em : nI k - nI k / 8 * 8 = nI (k % 8) := pk_rem (d := 8) (by omega) (by omega) (by omega)
  refine zi_of (by decide) (fun α => Nat.le_of_ble_eq_true rfl) (r_Row_turnBit_0 l d q _ g.1 g.2.1 (by omega) g.2.2.1 ⟨fun c => absurd c (nI_pos (by omega)), fun _ => ⟨fun c => ?_, fun _ => ⟨k / 8, e8, by omega, k / 8, e8, by omega, rfl, ⟨?_, ?_, ?_, dm_lt a.2.2.2⟩, zf_u2 (by simp <;> omega)⟩⟩⟩)
  · rw [a.2.1, e8, nI_leI (by omega) (by omega)] at c
    omega
  · rw [dm_len]
    exact hb
  · rw [dm_len, zx_u2_ne (by omega)]
    exact a.2.1
  · intro i hi
    rw [dm_len] at hi
    rw [dm_get hi]
    by_cases e : i = k / 8
    · rw [if_pos e, e, zx_u2_s, em, dm_sh _ (Nat.mod_lt _ (by decide)), a.2.2.1 (k / 8) (by omega), zb_xor]
    · rw [if_neg e, zx_u2_k e]
      exact a.2.2.1 i hi
theorem c_damage_ret (l : Launch) {x : Int32} (g : g_Main K RJ o tl nx) (a : a_C I o tl s) (h0 : ¬ (x < 0 ∨ ¬ x < nI (8 * s.1.length))) :
    zx_C l (zx_rm 7 0 0) M_Main_damage false [.ref o, .int x] (K, I, RJ) (fun r h2 => r = none ∧ cls_P K RJ o I (dm s.1 x.toBitVec.toNat, s.2) h2) := by
  obtain ⟨k, k1, e1, k3⟩ := nI_nn (x := x) (fun h => h0 (Or.inl h))
  have hb := a.1.1
  have e8 : (8 : Int32) * nI s.1.length = nI (8 * s.1.length) := by rw [show (8 : Int32) = nI 8 from rfl, pk_mul]
  have h8 : k < 8 * s.1.length := by
    have h : x < nI (8 * s.1.length) := Classical.byContradiction (fun h => h0 (Or.inr h))
    rw [e1, nI_ltI (by omega) (by omega)] at h
    exact h
  rw [k3]
  refine zi_up (Q := fun r I2 => r = none ∧ a_Row I2 (o + 1) 400 (dm s.1 k) ∧ zf [o + 1, o + 2] I I2) (zi_of (by decide) (fun α => Nat.le_of_ble_eq_true rfl) (y_Main_damage_0 l 6 o _ g.k g.iR (by omega) g.i.1 ⟨fun c => absurd (Or.inl c) h0, fun _ => ⟨fun _ => ?_, fun c => ?_⟩⟩)) (fun r I2 h => ⟨h.1, cls_in g a h.2.2 h.2.1⟩)
  · rw [e1]
    refine zi_mono (c_turnBit l 6 g.i (by decide) a.1 h8) ?_
    rintro r I2 ⟨rfl, a2, z2⟩
    exact ⟨rfl, zi_vret d_Main_damage_36 rfl ⟨rfl, a2, z2⟩⟩
  · rw [a.1.2.1, e8] at c
    exact absurd (Or.inr c) h0
theorem c_damage_thr (l : Launch) {x : Int32} (htr : l.flags = pinnedFlags ++ [noTraceFlag]) (g : g_Main K RJ o tl nx) (a : a_C I o tl s) (h0 : x < 0 ∨ ¬ x < nI (8 * s.1.length)) :
    zx_CT l (zx_rm 7 1 6) M_Main_damage [.ref o, .int x] (K, I, RJ) "java/lang/IndexOutOfBoundsException" (cls_P K RJ o I s) := by
  have t : zy_X l 6 1 6 M_Main_damage (zx_Zc (some []) (zx_Zh (zx_rm 7 1 6) "java/lang/IndexOutOfBoundsException" (cls_P K RJ o I s))) K RJ 18 [(0, .ref o), (1, .int x)] [] I := zx_throw htr (th_3 _ _ th_t4) (by decide) (by decide) rfl rfl d_Main_damage_18 d_Main_damage_21 d_Main_damage_22 d_Main_damage_24 d_Main_damage_27 (cls_same g a)
  refine zx_CT.of (by decide) (fun α => Nat.le_of_ble_eq_true rfl) (y_Main_damage_0 l 6 o _ g.k g.iR (by omega) g.i.1 ⟨fun _ => t, fun c => ⟨fun c2 => ?_, fun _ => t⟩⟩)
  rw [a.1.2.1, show (8 : Int32) * nI s.1.length = nI (8 * s.1.length) by rw [show (8 : Int32) = nI 8 from rfl, pk_mul]] at c2
  exact (h0.elim c (fun h => h c2)).elim
theorem c_append_ret (l : Launch) (g : g_Main K RJ o tl nx) (a : a_C I o tl s) (h0 : ¬ 400 < s.1.length + s.2.1.length) :
    zx_C l (zx_rm 7 0 0) M_Main_append false [.ref o] (K, I, RJ) (fun r h2 => r = some (.int (nI (s.1.length + s.2.1.length))) ∧ cls_P K RJ o I (s.1 ++ s.2.1, s.2) h2) := by
  have hb := a.1.1
  have ho := a.2.1.1
  refine zi_up (Q := fun r I2 => r = some (.int (nI (s.1.length + s.2.1.length))) ∧ a_Row I2 (o + 1) 400 (s.1 ++ s.2.1) ∧ zf [o + 1, o + 2] I I2) (zi_of (by decide) (fun α => Nat.le_of_ble_eq_true rfl) (y_Main_append_0 l 6 o g.k g.iR (by omega) g.oR (by omega) g.ou.1 g.i.1 ?_)) (fun r I2 h => ⟨h.1, cls_in g a h.2.2 h.2.1⟩)
  rw [a.2.1.2.1]
  refine zi_mono (c_Row_hasRoom l 6 g.i a.1 (by omega)) ?_
  rintro r I2 ⟨rfl, rfl⟩
  rw [if_pos (by omega)]
  refine ⟨_, rfl, fun _ => zi_mono (c_addAll l 5 g.i g.ou (by omega) a.1 a.2.1 (by omega)) ?_, fun c => absurd c (by decide)⟩
  rintro r I3 ⟨rfl, a3, z3⟩
  refine ⟨rfl, ?_⟩
  rw [a3.2.1, List.length_append]
  exact zi_iret d_Main_append_45 rfl ⟨rfl, a3, z3⟩
theorem c_append_thr (l : Launch) (htr : l.flags = pinnedFlags ++ [noTraceFlag]) (g : g_Main K RJ o tl nx) (a : a_C I o tl s) (h0 : 400 < s.1.length + s.2.1.length) :
    zx_CT l (zx_rm 7 1 6) M_Main_append [.ref o] (K, I, RJ) "java/lang/UnsupportedOperationException" (cls_P K RJ o I s) := by
  have ho := a.2.1.1
  refine zx_CT.of (by decide) (fun α => Nat.le_of_ble_eq_true rfl) (y_Main_append_0 l 6 o g.k g.iR (by omega) g.oR (by omega) g.ou.1 g.i.1 ?_)
  rw [a.2.1.2.1]
  refine zi_mono (c_Row_hasRoom l 6 g.i a.1 (by omega)) ?_
  rintro r I2 ⟨rfl, rfl⟩
  rw [if_neg (by omega)]
  exact ⟨_, rfl, fun c => absurd rfl c, fun _ => zx_throw htr (th_2 _ _ th_t2) (by decide) (by decide) rfl rfl d_Main_append_17 d_Main_append_20 d_Main_append_21 d_Main_append_23 d_Main_append_26 (cls_same g a)⟩
theorem c_out_ret (l : Launch) {x : Int32} (g : g_Main K RJ o tl nx) (a : a_C I o tl s) (h0 : ¬ (x < 0 ∨ ¬ x < nI s.2.1.length)) :
    zx_C l (zx_rm 7 0 0) M_Main_out false [.ref o, .int x] (K, I, RJ) (fun r h2 => r = some (.int (nI (s.2.1.getD x.toBitVec.toNat 0))) ∧ cls_P K RJ o I s h2) := by
  obtain ⟨k, k1, e1, k3⟩ := nI_nn (x := x) (fun h => h0 (Or.inl h))
  have ho := a.2.1.1
  have h8 : k < s.2.1.length := by
    have h : x < nI s.2.1.length := Classical.byContradiction (fun h => h0 (Or.inr h))
    rw [e1, nI_ltI (by omega) (by omega)] at h
    exact h
  rw [k3]
  refine zi_up (Q := fun r I2 => r = some (.int (nI (s.2.1.getD k 0))) ∧ I2 = I) (zi_of (by decide) (fun α => Nat.le_of_ble_eq_true rfl) (y_Main_out_0 l 6 o _ g.k g.oR (by omega) g.ou.1 ⟨fun c => absurd (Or.inl c) h0, fun _ => ⟨fun _ => ?_, fun c => ?_⟩⟩)) (fun r I2 h => ⟨h.1, by rw [h.2]; exact cls_same g a⟩)
  · rw [e1]
    refine zi_mono (c_Row_get l 6 g.ou a.2.1 (by omega)) ?_
    rintro r I2 ⟨rfl, rfl⟩
    exact ⟨_, rfl, zi_iret d_Main_out_33 rfl ⟨rfl, rfl⟩⟩
  · rw [a.2.1.2.1] at c
    exact absurd (Or.inr c) h0
theorem c_out_thr (l : Launch) {x : Int32} (htr : l.flags = pinnedFlags ++ [noTraceFlag]) (g : g_Main K RJ o tl nx) (a : a_C I o tl s) (h0 : x < 0 ∨ ¬ x < nI s.2.1.length) :
    zx_CT l (zx_rm 7 1 6) M_Main_out [.ref o, .int x] (K, I, RJ) "java/lang/IndexOutOfBoundsException" (cls_P K RJ o I s) := by
  have t : zy_X l 6 1 6 M_Main_out (zx_Zc (some []) (zx_Zh (zx_rm 7 1 6) "java/lang/IndexOutOfBoundsException" (cls_P K RJ o I s))) K RJ 15 [(0, .ref o), (1, .int x)] [] I := zx_throw htr (th_3 _ _ th_t7) (by decide) (by decide) rfl rfl d_Main_out_15 d_Main_out_18 d_Main_out_19 d_Main_out_21 d_Main_out_24 (cls_same g a)
  refine zx_CT.of (by decide) (fun α => Nat.le_of_ble_eq_true rfl) (y_Main_out_0 l 6 o _ g.k g.oR (by omega) g.ou.1 ⟨fun _ => t, fun c => ⟨fun c2 => ?_, fun _ => t⟩⟩)
  rw [a.2.1.2.1] at c2
  exact (h0.elim c (fun h => h c2)).elim
theorem c_pack_ret (l : Launch) {x : Int32} (g : g_Main K RJ o tl nx) (a : a_C I o tl s) (h0 : ¬ (x < 1 ∨ ¬ x ≤ 8)) :
    zx_C l (zx_rm 7 0 0) M_Main_pack false [.ref o, .int x] (K, I, RJ) (fun r h2 => r = some (.int (nI (pk_all s.1 x.toBitVec.toNat s.2.2.2.2).1.length)) ∧ cls_P K RJ o I (s.1, (pk_all s.1 x.toBitVec.toNat s.2.2.2.2).1, s.2.2.1, (pk_all s.1 x.toBitVec.toNat s.2.2.2.2).2.1, (pk_all s.1 x.toBitVec.toNat s.2.2.2.2).2.2) h2) := by
  have hd := g.d
  obtain ⟨k, k1, e1, k3⟩ := nI_nn (x := x) (fun h => h0 (Or.inl (Int32.lt_trans h (by decide))))
  have h8 : k ≤ 8 := by
    have h : x ≤ 8 := Classical.byContradiction (fun h => h0 (Or.inr h))
    rw [e1, show (8 : Int32) = nI 8 from rfl, nI_leI (by omega) (by omega)] at h
    exact h
  have h7 : 1 ≤ k := by
    have h : ¬ x < 1 := fun h => h0 (Or.inl h)
    rw [e1, show (1 : Int32) = nI 1 from rfl, nI_ltI (by omega) (by omega)] at h
    omega
  rw [k3, e1]
  obtain ⟨a1, a2, ⟨fs, a3⟩, a4, a5, a6, a7, a8, a9⟩ := a
  refine zi_up (c_cpack (B := s.2.2.2.2) l 2 g h7 h8 a1 a2 a4 a5) ?_
  intro r I2 hp
  generalize pk_all s.1 k s.2.2.2.2 = V at hp ⊢
  obtain ⟨q1, q2, q3, q4, q5, q6, q7, q8⟩ := hp
  have no : ∀ q, q ≠ o → ¬ (q = o + 3 ∨ q = o + 4 ∨ (o + 38 ≤ q ∧ q < o + 80) ∨ (tl ≤ q ∧ q < tl + 11)) → q ∉ o :: cp_S o tl := fun q h1 h2 h3 => by
    rw [List.mem_cons, cp_mem] at h3
    exact h3.elim h1 h2
  refine ⟨q1, I2, RJ, tl, nx, rfl, g, rfl, fun _ _ => rfl, ⟨a1.keep q8.2 (no _ (by omega) (by omega)) (no _ (by omega) (by omega)), q2, ⟨fs, a3.keep q8.2 (no _ (by omega) (by omega)) (no _ (by omega) (by omega))⟩, q3, q4, ?_, q5, Nat.le_trans q6 (by decide), q7⟩, zf_mono q8.2 (fun q hq => ?_)⟩
  · rw [q8.1 11 (by simp <;> omega)]
    exact a6
  · rw [List.mem_cons, cp_mem] at hq
    rw [rg_mem]
    omega
theorem c_pack_thr (l : Launch) {x : Int32} (htr : l.flags = pinnedFlags ++ [noTraceFlag]) (g : g_Main K RJ o tl nx) (a : a_C I o tl s) (h0 : x < 1 ∨ ¬ x ≤ 8) :
    zx_CT l (zx_rm 7 1 6) M_Main_pack [.ref o, .int x] (K, I, RJ) "java/lang/IllegalArgumentException" (cls_P K RJ o I s) := by
  have t : zy_X l 6 1 6 M_Main_pack (zx_Zc (some []) (zx_Zh (zx_rm 7 1 6) "java/lang/IllegalArgumentException" (cls_P K RJ o I s))) K RJ 11 [(0, .ref o), (1, .int x)] [] I := zx_throw htr (th_1 _ _ th_t5) (by decide) (by decide) rfl rfl d_Main_pack_11 d_Main_pack_14 d_Main_pack_15 d_Main_pack_17 d_Main_pack_20 (cls_same g a)
  refine zx_CT.of (by decide) (fun α => Nat.le_of_ble_eq_true rfl) (y_Main_pack_0 l 6 o _ g.k g.oR (by omega) g.ou.1 g.wR (by omega) g.w.k ⟨fun _ => t, fun c => ⟨fun c2 => ?_, fun _ => t⟩⟩)
  exact (h0.elim c (fun h => h c2)).elim
theorem c_unpack_ret (l : Launch) (g : g_Main K RJ o tl nx) (a : a_C I o tl s) (h0 : (op_unpack s).1 = 0) :
    zx_C l (zx_rm 7 0 0) M_Main_unpack false [.ref o] (K, I, RJ) (fun r h2 => r = some (.int (op_unpack s).2.1) ∧ cls_P K RJ o I (op_unpack s).2.2 h2) := by
  have hd := g.d
  obtain ⟨a1, a2, ⟨fs, a3⟩, a4, a5, a6, a7, a8, a9⟩ := a
  have hn : ∀ x, rd_all s.1 400 [] 0 s.2.2.2.2 0 ≠ .inl (1, x) := fun x e => by
    unfold op_unpack at h0
    rw [e] at h0
    simp at h0
  refine (c_cunpack (B := s.2.2.2.2) l 1 g a1 a2 a3 hn).mono (fun r h2 hp => ?_)
  unfold op_unpack at h0 ⊢
  cases e : rd_all s.1 400 [] 0 s.2.2.2.2 0 with
  | inl f =>
    rw [e] at hp h0
    obtain ⟨I2, rfl, rfl, p3, p4, p5, p6⟩ := hp
    have hf : ¬ f.1 = 1 := fun x => hn f.2 (by rw [e, ← x])
    have no : ∀ q, q ≠ o → ¬ ((o + 5 ≤ q ∧ q < o + 38) ∨ (nx ≤ q ∧ q < nx + 11)) → q ∉ o :: cs_S o nx := fun q h1 h2 h3 => by
      rw [List.mem_cons, cs_mem] at h3
      exact h3.elim h1 h2
    dsimp only
    rw [if_neg hf]
    refine ⟨rfl, I2, RJ, tl, nx, rfl, g, rfl, fun _ _ => rfl, ⟨a1.keep p4.2 (no _ (by omega) (by omega)) (no _ (by omega) (by omega)), a2.keep p4.2 (no _ (by omega) (by omega)) (no _ (by omega) (by omega)), p5, ?_, ?_, p6, ?_, a8, fun h => ⟨(a9 h).1.keep (a9 h).2.T p4.2 (fun q hq => ?_), (a9 h).2⟩⟩, zf_mono p4.2 (fun q hq => ?_)⟩
    · rw [zf_at p4.2 (no _ (by omega) (by omega))]; exact a4
    · rw [zf_at p4.2 (no _ (by omega) (by omega))]; exact a5
    · rw [p4.1 9 (by simp <;> omega)]; exact a7
    · rw [List.mem_cons, cs_mem] at hq
      omega
    · rw [List.mem_cons, cs_mem] at hq
      rw [rg_mem]
      omega
  | inr v =>
    rw [e] at hp
    obtain ⟨I2, rfl, p2, p3, p4, p5, p6, p7, p8⟩ := hp
    have no : ∀ q, q ≠ o → ¬ (q = o + 3 ∨ q = o + 4 ∨ (o + 5 ≤ q ∧ q < o + 38) ∨ (nx ≤ q ∧ q < nx + 11)) → q ∉ o :: cu_S o nx := fun q h1 h2 h3 => by
      unfold cu_S at h3
      rw [List.mem_cons, List.mem_cons, List.mem_cons, cs_mem] at h3
      exact h3.elim h1 h2
    have hz : zf (List.range' o 102) I I2 := zf_mono p7.2 (fun q hq => by
      unfold cu_S at hq
      rw [List.mem_cons, List.mem_cons, List.mem_cons, cs_mem] at hq
      rw [rg_mem]
      omega)
    have w4 : I2 (o + 50 + 5) 1 = nI 0 := by rw [zf_at p7.2 (no _ (by omega) (by omega))]; exact a4
    have w5 : I2 (o + 50 + 5) 2 = nI 0 := by rw [zf_at p7.2 (no _ (by omega) (by omega))]; exact a5
    have w1 := a1.keep p7.2 (no _ (by omega) (by omega)) (no _ (by omega) (by omega))
    refine ⟨rfl, ?_⟩
    rcases p8 with ⟨c1, rfl⟩ | ⟨c1, rfl, c3, c4⟩
    · exact ⟨I2, RJ, tl, nx, rfl, g, rfl, fun _ _ => rfl, ⟨w1, p6, ⟨_, p5⟩, w4, w5, p2, p3, Nat.le_trans p4 (by decide), fun h => by
        have h : 0 < v.1.2.1 := h
        omega⟩, hz⟩
    · refine ⟨I2, sw_RJ RJ o tl nx, nx, tl, rfl, g.sw, rfl, fun c hc => ?_, ⟨w1, p6, ⟨_, p5⟩, w4, w5, p2, p3, Nat.le_trans p4 (by decide), fun _ => ⟨c3, c4⟩⟩, hz⟩
      show zx_u2 (zx_u2 RJ.1 o 7 nx) o 8 tl c = _
      rw [zx_u2_off hc, zx_u2_off hc]
theorem c_unpack_thr (l : Launch) (htr : l.flags = pinnedFlags ++ [noTraceFlag]) (g : g_Main K RJ o tl nx) (a : a_C I o tl s) (h0 : ¬ (op_unpack s).1 = 0) :
    zx_CT l (zx_rm 7 1 6) M_Main_unpack [.ref o] (K, I, RJ) "java/lang/IllegalStateException" (cls_P K RJ o I (op_unpack s).2.2) ∧ (op_unpack s).1 = 1 ∧ (op_unpack s).2.1 = 0 := by
  have hd := g.d
  obtain ⟨a1, a2, ⟨fs, a3⟩, a4, a5, a6, a7, a8, a9⟩ := a
  unfold op_unpack at h0 ⊢
  cases e : rd_all s.1 400 [] 0 s.2.2.2.2 0 with
  | inl f =>
    rw [e] at h0
    dsimp only at h0 ⊢
    by_cases hf : f.1 = 1
    · rw [if_pos hf]
      refine ⟨?_, rfl, rfl⟩
      have t := c_tunpack (B := s.2.2.2.2) l 1 htr g a1 a2 a3 (x := f.2) (by rw [e, ← hf])
      intro D G α sz
      intro p e2 h1 h2 h3 st m args below q1 q2 q3 q4
      obtain ⟨n, oo, r1, r2, r3, ⟨⟨x, ce, hh, u1, u2, u3, u4, ⟨I2, rfl, p4, p5, p6⟩, u6⟩, u7⟩, u8⟩ := t D G α sz p e2 h1 h2 h3 st m args below q1 q2 q3 q4
      have no : ∀ q, q ≠ o → ¬ ((o + 5 ≤ q ∧ q < o + 38) ∨ (nx ≤ q ∧ q < nx + 11)) → q ∉ o :: cs_S o nx := fun q h1 h2 h3 => by
        rw [List.mem_cons, cs_mem] at h3
        exact h3.elim h1 h2
      refine ⟨n, oo, r1, r2, r3, ⟨⟨x, ce, _, u1, u2, u3, u4, ⟨I2, RJ, tl, nx, rfl, g, rfl, fun _ _ => rfl, ⟨a1.keep p4.2 (no _ (by omega) (by omega)) (no _ (by omega) (by omega)), a2.keep p4.2 (no _ (by omega) (by omega)) (no _ (by omega) (by omega)), p5, ?_, ?_, p6, ?_, a8, fun h => ⟨(a9 h).1.keep (a9 h).2.T p4.2 (fun q hq => ?_), (a9 h).2⟩⟩, zf_mono p4.2 (fun q hq => ?_)⟩, u6⟩, u7⟩, u8⟩
      · rw [zf_at p4.2 (no _ (by omega) (by omega))]; exact a4
      · rw [zf_at p4.2 (no _ (by omega) (by omega))]; exact a5
      · rw [p4.1 9 (by simp <;> omega)]; exact a7
      · rw [List.mem_cons, cs_mem] at hq
        omega
      · rw [List.mem_cons, cs_mem] at hq
        rw [rg_mem]
        omega
    · rw [if_neg hf] at h0
      exact absurd rfl h0
  | inr v =>
    rw [e] at h0
    exact absurd rfl h0
theorem c_rescue_ret (l : Launch) (g : g_Main K RJ o tl nx) (a : a_C I o tl s) :
    zx_C l (zx_rm 7 0 0) M_Main_rescue false [.ref o] (K, I, RJ) (fun r h2 => r = some (.int (op_rescue s).1) ∧ cls_P K RJ o I (op_rescue s).2 h2) := by
  obtain ⟨a1, a2, ⟨fs, a3⟩, a4, a5, a6, a7, a8, a9⟩ := a
  refine (c_crescue (B := s.2.2.2.2) l 2 g a1 a2 a3).mono (fun r h2 hp => ?_)
  obtain ⟨I2, RJ2, tl2, nx2, rfl, p2, p3, p4, p5, p6, p7, p8, p9, p10, p11⟩ := hp
  have no : ∀ q, q ≠ o → ¬ ((o + 3 ≤ q ∧ q < o + 38) ∨ (o + 80 ≤ q ∧ q < o + 102)) → q ∉ o :: cr_S o := fun q h1 h2 h3 => by
    rw [List.mem_cons, crs_mem] at h3
    exact h3.elim h1 h2
  refine ⟨p5, I2, RJ2, tl2, nx2, rfl, p2, p3, p4, ⟨a1.keep p11.2 (no _ (by omega) (by omega)) (no _ (by omega) (by omega)), p8, p9, ?_, ?_, ?_, p7, Nat.le_trans p6 (by decide), p10⟩, zf_mono p11.2 (fun q hq => ?_)⟩
  · rw [zf_at p11.2 (no _ (by omega) (by omega))]; exact a4
  · rw [zf_at p11.2 (no _ (by omega) (by omega))]; exact a5
  · rw [p11.1 11 (by simp <;> omega)]; exact a6
  · rw [List.mem_cons, crs_mem] at hq
    rw [rg_mem]
    omega
theorem c_at (l : Launch) (d : Nat) (g : g_Main K RJ o tl nx) (a : a_C I o tl s) : zi_C l (zx_rm d 0 0) M_Main_at [.ref o] K RJ I (fun r I2 => r = some (.int s.2.2.1) ∧ I2 = I) := zi_of (by decide) (fun α => Nat.le_of_ble_eq_true rfl) (r_Main_at_0 l d o g.k ⟨by rw [a.2.2.2.2.2.1], rfl⟩)
theorem c_given (l : Launch) (d : Nat) (g : g_Main K RJ o tl nx) (a : a_C I o tl s) : zi_C l (zx_rm d 0 0) M_Main_given [.ref o] K RJ I (fun r I2 => r = some (.int (nI s.1.length)) ∧ I2 = I) := zi_of (by decide) (fun α => Nat.le_of_ble_eq_true rfl) (r_Main_given_0 l d o g.k g.iR (by omega) g.i.1 ⟨by rw [a.1.2.1], rfl⟩)
theorem c_size (l : Launch) (d : Nat) (g : g_Main K RJ o tl nx) (a : a_C I o tl s) : zi_C l (zx_rm d 0 0) M_Main_size [.ref o] K RJ I (fun r I2 => r = some (.int (nI s.2.1.length)) ∧ I2 = I) := zi_of (by decide) (fun α => Nat.le_of_ble_eq_true rfl) (r_Main_size_0 l d o g.k g.oR (by omega) g.ou.1 ⟨by rw [a.2.1.2.1], rfl⟩)
theorem c_blocks (l : Launch) (d : Nat) (g : g_Main K RJ o tl nx) (a : a_C I o tl s) : zi_C l (zx_rm d 0 0) M_Main_blocks [.ref o] K RJ I (fun r I2 => r = some (.int (nI s.2.2.2.1)) ∧ I2 = I) := zi_of (by decide) (fun α => Nat.le_of_ble_eq_true rfl) (r_Main_blocks_0 l d o g.k ⟨by rw [a.2.2.2.2.2.2.1], rfl⟩)
end CP
