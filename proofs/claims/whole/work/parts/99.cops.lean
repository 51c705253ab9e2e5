/-! The class's calls, one by one. -/
def fy (w : Int64) (k : Nat) : Nat := ((((w.toUInt64 >>> (((8 * nI k : Int32)).toInt64.toUInt64 &&& Int64.toUInt64 63)).toInt64).toInt32) &&& 255).toBitVec.toNat
theorem fy_lt (w : Int64) (k : Nat) : fy w k < 256 := by
  unfold fy
  rw [Int32.toBitVec_and, BitVec.toNat_and]
  exact Nat.lt_of_le_of_lt Nat.and_le_right (by decide)
theorem fy_eq (w : Int64) (k : Nat) : ((((w.toUInt64 >>> (((8 * nI k : Int32)).toInt64.toUInt64 &&& Int64.toUInt64 63)).toInt64).toInt32) &&& 255) = nI (fy w k) := (nI_toNat (Nat.lt_trans (fy_lt w k) (by decide))).mpr rfl
theorem fy_and (y : Int64) : (y &&& 255).toInt32 = y.toInt32 &&& 255 := by
  rw [Int64.toInt32_and]
  rfl
def fd (w : Int64) : Nat → List Nat
  | 0 => []
  | k + 1 => fy w k :: fd w k
theorem fd_len (w : Int64) : ∀ k, (fd w k).length = k
  | 0 => rfl
  | k + 1 => by
    show (fd w k).length + 1 = k + 1
    rw [fd_len w k]
def dm (bs : List Nat) (k : Nat) : List Nat := bs.set (k / 8) (bs.getD (k / 8) 0 ^^^ 2 ^ (7 - k % 8))
def op_feed (s : ab_S) (w : Int64) (x : Int32) : Nat × Int32 × ab_S := if x < 1 ∨ ¬ x ≤ 8 then (1, 0, s) else if 400 < s.1.length + x.toBitVec.toNat then (2, 0, s) else (0, nI (s.1.length + x.toBitVec.toNat), (s.1 ++ fd w x.toBitVec.toNat, s.2))
def op_keep (s : ab_S) (x : Int32) : Nat × Int32 × ab_S := if x < 0 ∨ ¬ x ≤ nI s.1.length then (1, 0, s) else (0, 0, (s.1.take x.toBitVec.toNat, s.2))
def op_damage (s : ab_S) (x : Int32) : Nat × Int32 × ab_S := if x < 0 ∨ ¬ x < nI (8 * s.1.length) then (1, 0, s) else (0, 0, (dm s.1 x.toBitVec.toNat, s.2))
def op_append (s : ab_S) : Nat × Int32 × ab_S := if 400 < s.1.length + s.2.1.length then (1, 0, s) else (0, nI (s.1.length + s.2.1.length), (s.1 ++ s.2.1, s.2))
def op_out (s : ab_S) (x : Int32) : Nat × Int32 × ab_S := if x < 0 ∨ ¬ x < nI s.2.1.length then (1, 0, s) else (0, nI (s.2.1.getD x.toBitVec.toNat 0), s)
def op_pack (s : ab_S) (x : Int32) : Nat × Int32 × ab_S := if x < 1 ∨ ¬ x ≤ 8 then (1, 0, s) else (0, nI (pk_all s.1 x.toBitVec.toNat s.2.2.2.2).1.length, (s.1, (pk_all s.1 x.toBitVec.toNat s.2.2.2.2).1, s.2.2.1, (pk_all s.1 x.toBitVec.toNat s.2.2.2.2).2.1, (pk_all s.1 x.toBitVec.toNat s.2.2.2.2).2.2))
def op_unpack (s : ab_S) : Nat × Int32 × ab_S :=
  match rd_all s.1 400 [] 0 s.2.2.2.2 0 with
  | .inl e => if e.1 = 1 then (1, 0, (s.1, s.2.1, -1, s.2.2.2)) else (0, e.1, (s.1, s.2.1, nI e.2, s.2.2.2))
  | .inr v => (0, nI v.1.1.length, (s.1, v.1.1, -1, v.1.2.1, v.1.2.2))
def op_rescue (s : ab_S) : Int32 × ab_S := (nI (rs_go s.1 3201 0 [] 0 s.2.2.2.2).2.1, (s.1, (rs_go s.1 3201 0 [] 0 s.2.2.2.2).1, s.2.2.1, (rs_go s.1 3201 0 [] 0 s.2.2.2.2).2.1, (rs_go s.1 3201 0 [] 0 s.2.2.2.2).2.2))
def cls_P (K : zx_Kt) (RJ : zx_RJ) (o : Nat) (I : zi_I) (s : ab_S) (h2 : zx_H) : Prop := ∃ (I2 : zi_I) (RJ2 : zx_RJ) (tl nx : Nat), h2 = (K, I2, RJ2) ∧ g_Main K RJ2 o tl nx ∧ RJ2.2 = RJ.2 ∧ (∀ c, c ≠ o → RJ2.1 c = RJ.1 c) ∧ a_C I2 o tl s ∧ zf (List.range' o 102) I I2
theorem rg_mem {o n q : Nat} : q ∈ List.range' o n ↔ o ≤ q ∧ q < o + n := List.mem_range'_1
section CO
variable {K : zx_Kt} {RJ : zx_RJ} {o tl nx : Nat} {s : ab_S} {I I2 : zi_I}
theorem a_C.input {bs : List Nat} (a : a_C I o tl s) (ht : tl = o + 80 ∨ tl = o + 91) (z : zf [o + 1, o + 2] I I2) (r : a_Row I2 (o + 1) 400 bs) : a_C I2 o tl (bs, s.2) := by
  obtain ⟨a1, a2, ⟨fs, a3⟩, a4, a5, a6, a7, a8, a9⟩ := a
  refine ⟨r, a2.keep z (by simp <;> omega) (by simp <;> omega), ⟨fs, a3.keep z (by simp <;> omega) (by simp <;> omega)⟩, ?_, ?_, ?_, ?_, a8, fun h => ⟨(a9 h).1.keep (a9 h).2.T z (fun q hq => ?_), (a9 h).2⟩⟩
  · rw [zf_at z (by simp <;> omega)]; exact a4
  · rw [zf_at z (by simp <;> omega)]; exact a5
  · rw [zf_at z (by simp <;> omega)]; exact a6
  · rw [zf_at z (by simp <;> omega)]; exact a7
  · simp only [List.mem_cons, List.not_mem_nil, or_false] at hq
    omega
theorem cls_in {bs : List Nat} (g : g_Main K RJ o tl nx) (a : a_C I o tl s) (z : zf [o + 1, o + 2] I I2) (r : a_Row I2 (o + 1) 400 bs) : cls_P K RJ o I (bs, s.2) (K, I2, RJ) := ⟨I2, RJ, tl, nx, rfl, g, rfl, fun _ _ => rfl, a.input (by have := g.d; omega) z r, zf_mono z (fun q hq => by rw [rg_mem]; simp only [List.mem_cons, List.not_mem_nil, or_false] at hq; omega)⟩
theorem cls_same (g : g_Main K RJ o tl nx) (a : a_C I o tl s) : cls_P K RJ o I s (K, I, RJ) := ⟨I, RJ, tl, nx, rfl, g, rfl, fun _ _ => rfl, a, zf_refl⟩
theorem t_fd47 (l : Launch) (d : Nat) {w : Int64} {x3 : Int32} {Q : zi_Q} (g : g_Main K RJ o tl nx) :
    ∀ (k : Nat) (bs : List Nat) (I : zi_I), k ≤ 8 → bs.length + k ≤ 400 → a_Row I (o + 1) 400 bs → (∀ I2, a_Row I2 (o + 1) 400 (bs ++ fd w k) → zf [o + 1, o + 2] I I2 → Q (some (.int (nI (bs.length + k)))) I2) →
      zi_X l (zx_rm (d + 1) 0 0) M_Main_feed K RJ Q 47 [(0, .ref o), (1, .long w), (3, .int x3), (4, .int (nI k - 1))] [] I := by
  intro k
  induction k with
  | zero =>
    intro bs I hk hb a q
    refine y_Main_feed_47 l d o _ _ _ g.k g.iR (by omega) g.i.1 ⟨fun _ => ?_, fun c => absurd (by decide) c⟩
    rw [a.2.1]
    exact zi_iret d_Main_feed_84 rfl (q I (by rw [show bs ++ fd w 0 = bs from List.append_nil bs]; exact a) zf_refl)
  | succ k ih =>
    intro bs I hk hb a q
    rw [nI_pred]
    refine y_Main_feed_47 l d o _ _ _ g.k g.iR (by omega) g.i.1 ⟨fun c => absurd c (nI_pos (by omega)), fun _ => ?_⟩
    rw [fy_eq]
    refine zi_mono (c_Row_add l d g.i a (by omega) (fy_lt w k)) ?_
    rintro r I2 ⟨rfl, a2, z2⟩
    refine ⟨rfl, ?_⟩
    rw [zi_m1]
    refine ih (bs ++ [fy w k]) I2 (by omega) (by rw [List.length_append, List.length_singleton]; omega) a2 (fun I3 a3 z3 => ?_)
    have q2 := q I3 (by rw [List.append_assoc] at a3; exact a3) (zf_trans z2 z3)
    rw [List.length_append, List.length_singleton, show bs.length + 1 + k = bs.length + (k + 1) by omega]
    exact q2
theorem zi_up {l : Launch} {rm : Room} {M : zx_M} {As : List Value} {Q : zi_Q} {P : Option Value → zx_H → Prop} (h : zi_C l rm M As K RJ I Q) (hq : ∀ r I2, Q r I2 → P r (K, I2, RJ)) : zx_C l rm M false As (K, I, RJ) P := h.mono (fun r h2 ⟨I2, e, q⟩ => by rw [e]; exact hq r I2 q)
theorem c_feed_ret (l : Launch) {w : Int64} {x : Int32} (g : g_Main K RJ o tl nx) (a : a_C I o tl s) (h0 : (op_feed s w x).1 = 0) :
    zx_C l (zx_rm 7 0 0) M_Main_feed false [.ref o, .long w, .int x] (K, I, RJ) (fun r h2 => r = some (.int (op_feed s w x).2.1) ∧ cls_P K RJ o I (op_feed s w x).2.2 h2) := by
  unfold op_feed at *
  by_cases c1 : x < 1 ∨ ¬ x ≤ 8
  · rw [if_pos c1] at h0
    exact absurd h0 (by simp <;> omega)
  rw [if_neg c1] at h0 ⊢
  by_cases c2 : 400 < s.1.length + x.toBitVec.toNat
  · rw [if_pos c2] at h0
    exact absurd h0 (by simp <;> omega)
  rw [if_neg c2] at h0 ⊢
  obtain ⟨k, k1, e1, k3⟩ := nI_nn (x := x) (fun h => c1 (Or.inl (Int32.lt_trans h (by decide))))
  rw [k3] at c2 ⊢
  have h8 : k ≤ 8 := by
    have := fun h => c1 (Or.inr h)
    have h : x ≤ 8 := Classical.byContradiction this
    rw [e1, show (8 : Int32) = nI 8 from rfl, nI_leI (by omega) (by omega)] at h
    exact h
  refine zi_up (Q := fun r I2 => r = some (.int (nI (s.1.length + k))) ∧ a_Row I2 (o + 1) 400 (s.1 ++ fd w k) ∧ zf [o + 1, o + 2] I I2) (zi_of (by decide) (fun α => Nat.le_of_ble_eq_true rfl) (y_Main_feed_0 l 6 o _ _ g.k g.iR (by omega) g.i.1 ⟨fun c => absurd (Or.inl c) c1, fun _ => ⟨fun _ => ?_, fun c => absurd (Or.inr c) c1⟩⟩)) (fun r I2 h => ⟨h.1, cls_in g a h.2.2 h.2.1⟩)
  rw [e1]
  refine zi_mono (c_Row_hasRoom l 6 g.i a.1 (by omega)) ?_
  rintro r I2 ⟨rfl, rfl⟩
  rw [if_pos (by omega)]
  exact ⟨_, rfl, fun _ => t_fd47 l 6 g k s.1 I2 h8 (by omega) a.1 (fun I3 a3 z3 => ⟨rfl, a3, z3⟩), fun c => absurd c (by decide)⟩
theorem c_feed_thr1 (l : Launch) {w : Int64} {x : Int32} (htr : l.flags = pinnedFlags ++ [noTraceFlag]) (g : g_Main K RJ o tl nx) (a : a_C I o tl s) (h0 : x < 1 ∨ ¬ x ≤ 8) :
    zx_CT l (zx_rm 7 1 6) M_Main_feed [.ref o, .long w, .int x] (K, I, RJ) "java/lang/IllegalArgumentException" (cls_P K RJ o I s) := by
  have t : zy_X l 6 1 6 M_Main_feed (zx_Zc (some []) (zx_Zh (zx_rm 7 1 6) "java/lang/IllegalArgumentException" (cls_P K RJ o I s))) K RJ 11 [(0, .ref o), (1, .long w), (3, .int x)] [] I := zx_throw htr (th_1 _ _ th_t1) (by decide) (by decide) rfl rfl d_Main_feed_11 d_Main_feed_14 d_Main_feed_15 d_Main_feed_17 d_Main_feed_20 (cls_same g a)
  refine zx_CT.of (by decide) (fun α => Nat.le_of_ble_eq_true rfl) (y_Main_feed_0 l 6 o _ _ g.k g.iR (by omega) g.i.1 ⟨fun _ => t, fun c => ⟨fun c2 => ?_, fun _ => t⟩⟩)
  exact (h0.elim c (fun h => h c2)).elim
theorem c_feed_thr2 (l : Launch) {w : Int64} {x : Int32} (htr : l.flags = pinnedFlags ++ [noTraceFlag]) (g : g_Main K RJ o tl nx) (a : a_C I o tl s) (h0 : ¬ (x < 1 ∨ ¬ x ≤ 8)) (h1 : 400 < s.1.length + x.toBitVec.toNat) :
    zx_CT l (zx_rm 7 1 6) M_Main_feed [.ref o, .long w, .int x] (K, I, RJ) "java/lang/UnsupportedOperationException" (cls_P K RJ o I s) := by
  refine zx_CT.of (by decide) (fun α => Nat.le_of_ble_eq_true rfl) (y_Main_feed_0 l 6 o _ _ g.k g.iR (by omega) g.i.1 ⟨fun c => absurd (Or.inl c) h0, fun _ => ⟨fun c => ?_, fun c => absurd (Or.inr c) h0⟩⟩)
  obtain ⟨k, k1, e1, k3⟩ := nI_nn (x := x) (fun h => h0 (Or.inl (Int32.lt_trans h (by decide))))
  rw [k3] at h1
  rw [e1, show (8 : Int32) = nI 8 from rfl, nI_leI (by omega) (by omega)] at c
  rw [e1]
  refine zi_mono (c_Row_hasRoom l 6 g.i a.1 (by omega)) ?_
  rintro r I2 ⟨rfl, rfl⟩
  rw [if_neg (by omega)]
  exact ⟨_, rfl, fun c => absurd rfl c, fun _ => zx_throw htr (th_2 _ _ th_t2) (by decide) (by decide) rfl rfl d_Main_feed_32 d_Main_feed_35 d_Main_feed_36 d_Main_feed_38 d_Main_feed_41 (cls_same g a)⟩
theorem c_keep_ret (l : Launch) {x : Int32} (g : g_Main K RJ o tl nx) (a : a_C I o tl s) (h0 : ¬ (x < 0 ∨ ¬ x ≤ nI s.1.length)) :
    zx_C l (zx_rm 7 0 0) M_Main_keep false [.ref o, .int x] (K, I, RJ) (fun r h2 => r = none ∧ cls_P K RJ o I (s.1.take x.toBitVec.toNat, s.2) h2) := by
  obtain ⟨k, k1, e1, k3⟩ := nI_nn (x := x) (fun h => h0 (Or.inl h))
  have hb := a.1.1
  have h8 : k ≤ s.1.length := by
    have h : x ≤ nI s.1.length := Classical.byContradiction (fun h => h0 (Or.inr h))
    rw [e1, nI_leI (by omega) (by omega)] at h
    exact h
  rw [k3]
  refine zi_up (Q := fun r I2 => r = none ∧ a_Row I2 (o + 1) 400 (s.1.take k) ∧ zf [o + 1, o + 2] I I2) (zi_of (by decide) (fun α => Nat.le_of_ble_eq_true rfl) (y_Main_keep_0 l 6 o _ g.k g.iR (by omega) g.i.1 ⟨fun c => absurd (Or.inl c) h0, fun _ => ⟨fun _ => ?_, fun c => ?_⟩⟩)) (fun r I2 h => ⟨h.1, cls_in g a h.2.2 h.2.1⟩)
  · rw [e1]
    refine zi_mono (c_Row_cut l 6 g.i a.1 (by omega)) ?_
    rintro r I2 ⟨rfl, a2, z2⟩
    exact ⟨rfl, zi_vret d_Main_keep_33 rfl ⟨rfl, a2, z2⟩⟩
  · rw [a.1.2.1] at c
    exact absurd (Or.inr c) h0
theorem c_keep_thr (l : Launch) {x : Int32} (htr : l.flags = pinnedFlags ++ [noTraceFlag]) (g : g_Main K RJ o tl nx) (a : a_C I o tl s) (h0 : x < 0 ∨ ¬ x ≤ nI s.1.length) :
    zx_CT l (zx_rm 7 1 6) M_Main_keep [.ref o, .int x] (K, I, RJ) "java/lang/IllegalArgumentException" (cls_P K RJ o I s) := by
  have t : zy_X l 6 1 6 M_Main_keep (zx_Zc (some []) (zx_Zh (zx_rm 7 1 6) "java/lang/IllegalArgumentException" (cls_P K RJ o I s))) K RJ 15 [(0, .ref o), (1, .int x)] [] I := zx_throw htr (th_1 _ _ th_t3) (by decide) (by decide) rfl rfl d_Main_keep_15 d_Main_keep_18 d_Main_keep_19 d_Main_keep_21 d_Main_keep_24 (cls_same g a)
  refine zx_CT.of (by decide) (fun α => Nat.le_of_ble_eq_true rfl) (y_Main_keep_0 l 6 o _ g.k g.iR (by omega) g.i.1 ⟨fun _ => t, fun c => ⟨fun c2 => ?_, fun _ => t⟩⟩)
  rw [a.1.2.1] at c2
  exact (h0.elim c (fun h => h c2)).elim
end CO
