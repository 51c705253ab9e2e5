/-! What both sides hold, and what they answer of it. -/
abbrev ab_S : Type := List Nat × List Nat × Int32 × Nat × bk_B
def a_C (I : zi_I) (o tl : Nat) (s : ab_S) : Prop := a_Row I (o + 1) 400 s.1 ∧ a_Row I (o + 3) 4600 s.2.1 ∧ (∃ fs, a_Row I (o + 5) 2000 fs) ∧ I (o + 50 + 5) 1 = nI 0 ∧ I (o + 50 + 5) 2 = nI 0 ∧ I o 11 = s.2.2.1 ∧ I o 9 = nI s.2.2.2.1 ∧ s.2.2.2.1 ≤ 4000 ∧ (0 < s.2.2.2.1 → a_Blk I tl s.2.2.2.2 ∧ bk_ok s.2.2.2.2)
def a_M (I : zi_I) (m : Nat) (s : ab_S) : Prop := a_In I m s.1 ∧ aL I m 3 (m + 2) s.2.1 ∧ s.2.1.length ≤ 4600 ∧ I m 10 = s.2.2.1 ∧ I m 34 = nI s.2.2.2.1 ∧ s.2.2.2.1 ≤ 4000 ∧ (0 < s.2.2.2.1 → a_ML I m s.2.2.2.2 ∧ bk_ok s.2.2.2.2)
theorem a_C.keep {I I2 : zi_I} {o tl : Nat} {s : ab_S} {S : List Nat} (a : a_C I o tl s) (ht : tl = o + 80 ∨ tl = o + 91) (h : zf S I I2) (hS : ∀ q ∈ S, q < o ∨ o + 101 < q) : a_C I2 o tl s := by
  have no : ∀ q, o ≤ q → q ≤ o + 101 → q ∉ S := fun q h1 h2 hq => by
    have := hS q hq
    omega
  obtain ⟨a1, a2, ⟨fs, a3⟩, a4, a5, a6, a7, a8, a9⟩ := a
  refine ⟨a1.keep h (no _ (by omega) (by omega)) (no _ (by omega) (by omega)), a2.keep h (no _ (by omega) (by omega)) (no _ (by omega) (by omega)), ⟨fs, a3.keep h (no _ (by omega) (by omega)) (no _ (by omega) (by omega))⟩, ?_, ?_, ?_, ?_, a8, fun h0 => ⟨(a9 h0).1.keep (a9 h0).2.T h (fun q hq => by have := hS q hq; omega), (a9 h0).2⟩⟩
  · rw [zf_at h (no _ (by omega) (by omega))]; exact a4
  · rw [zf_at h (no _ (by omega) (by omega))]; exact a5
  · rw [zf_at h (no _ (by omega) (by omega))]; exact a6
  · rw [zf_at h (no _ (by omega) (by omega))]; exact a7
theorem a_M.keep {I I2 : zi_I} {m : Nat} {s : ab_S} {S : List Nat} (a : a_M I m s) (h : zf S I I2) (hS : ∀ q ∈ S, q < m ∨ m + 20 < q) : a_M I2 m s := by
  have no : ∀ q, m ≤ q → q ≤ m + 20 → q ∉ S := fun q h1 h2 hq => by
    have := hS q hq
    omega
  have hg : zg m [] S I I2 := ⟨fun j _ => zf_at h (no _ (by omega) (by omega)) j, zf_mono h (fun x hx => List.mem_cons_of_mem _ hx)⟩
  obtain ⟨a1, a2, a3, a4, a5, a6, a7⟩ := a
  refine ⟨a1.keepg hg (by simp) (no _ (by omega) (by omega)), ⟨?_, fun i hi => ?_⟩, a3, ?_, ?_, a6, fun h0 => ⟨(a7 h0).1.keep hg (by simp) (fun q hq => ?_), (a7 h0).2⟩⟩
  · rw [zf_at h (no _ (by omega) (by omega))]; exact a2.1
  · rw [zf_at h (no _ (by omega) (by omega))]; exact a2.2 i hi
  · rw [zf_at h (no _ (by omega) (by omega))]; exact a4
  · rw [zf_at h (no _ (by omega) (by omega))]; exact a5
  · have := hS q hq
    omega
theorem a_M.thr {I : zi_I} {m : Nat} {s : ab_S} {v : Int32} (a : a_M I m s) : a_M (zx_u2 I m 0 v) m s := by
  have hg : zg m [0] [] I (zx_u2 I m 0 v) := zg_fld (by simp)
  obtain ⟨a1, a2, a3, a4, a5, a6, a7⟩ := a
  refine ⟨a1.keepg hg (by simp) (by simp), ⟨?_, fun i hi => ?_⟩, a3, ?_, ?_, a6, fun h0 => ⟨(a7 h0).1.keep hg (by simp) (by simp), (a7 h0).2⟩⟩
  · rw [hg.1 3 (by simp)]; exact a2.1
  · rw [zg_cell hg (by omega) (by simp)]; exact a2.2 i hi
  · rw [hg.1 10 (by simp)]; exact a4
  · rw [hg.1 34 (by simp)]; exact a5
theorem nI_nn {x : Int32} (h : ¬ x < 0) : ∃ k, k < 2 ^ 31 ∧ x = nI k ∧ x.toBitVec.toNat = k := by
  have h0 : (0 : Int) ≤ x.toInt := by
    have := Int32.not_lt.mp h
    simpa using Int32.le_iff_toInt_le.mp this
  have h1 : x.toBitVec.toNat < 2 ^ 31 := by
    have e : x.toInt = x.toBitVec.toInt := rfl
    rw [e, BitVec.toInt_eq_toNat_cond] at h0
    have := x.toBitVec.isLt
    split at h0 <;> omega
  exact ⟨x.toBitVec.toNat, h1, (nI_toNat (by omega)).mpr rfl, rfl⟩
def gl_of (n len : Nat) (f : Nat → Nat) (x : Int32) : Int32 := if n = 0 then -1 else if x < 0 then -1 else if nI len ≤ x then -1 else nI (f x.toBitVec.toNat)
def gl_len (s : ab_S) (x y : Int32) : Int32 := if s.2.2.2.1 = 0 then -1 else if x < 0 then -1 else if nI s.2.2.2.2.T ≤ x then -1 else if y < 0 then -1 else if nI (s.2.2.2.2.ks.length + 2) ≤ y then -1 else nI (s.2.2.2.2.ln x.toBitVec.toNat y.toBitVec.toNat)
def gl_blk (s : ab_S) (x : Int32) : Int32 := if s.2.2.2.1 = 0 then -1 else if x = 0 then nI s.2.2.2.2.og else if x = 1 then nI s.2.2.2.2.sh.length else if x = 2 then nI s.2.2.2.2.sl.length else if x = 3 then nI s.2.2.2.2.T else if x = 4 then nI s.2.2.2.2.ch else -1
section GT
variable {K : zx_Kt} {RJ : zx_RJ} {o tl nx m : Nat} {s : ab_S} {I : zi_I}
theorem n_le0 {n : Nat} {v : Int32} (h : v = nI n) (hn : n ≤ 4000) : v ≤ 0 ↔ n = 0 := by
  rw [h, show (0 : Int32) = nI 0 from rfl, nI_leI (by omega) (by omega)]
  omega
theorem n_eq0 {n : Nat} {v : Int32} (h : v = nI n) (hn : n ≤ 4000) : v = 0 ↔ n = 0 := by
  rw [h, show (0 : Int32) = nI 0 from rfl, nI_eq (by omega) (by omega)]
theorem c_last (l : Launch) (d : Nat) {x : Int32} (g : g_Main K RJ o tl nx) (a : a_C I o tl s) : zi_C l (zx_rm d 0 0) M_Main_last [.ref o, .int x] K RJ I (fun r I2 => r = some (.int (gl_of s.2.2.2.1 s.2.2.2.2.sh.length (fun i => s.2.2.2.2.co.getD i 0) x)) ∧ I2 = I) := by
  have hd := g.d
  obtain ⟨-, -, -, -, -, -, h9, h8, hB⟩ := a
  refine zi_of (by decide) (fun α => Nat.le_of_ble_eq_true rfl) (r_Main_last_0 l d o x g.k g.tR (by omega) g.t.k g.t.co.1 (by omega) g.t.co.2 ?_)
  rw [n_le0 h9 h8]
  unfold gl_of
  refine ⟨fun c => ⟨by rw [if_pos c], rfl⟩, fun c => ?_⟩
  obtain ⟨b1, b2⟩ := hB (by omega)
  have hsh := b2.sh
  have hco := b2.co
  rw [if_neg c, b1.sh.1]
  refine ⟨fun c2 => ⟨by rw [if_pos c2], rfl⟩, fun c2 => ?_⟩
  rw [if_neg c2]
  refine ⟨fun c3 => ⟨by rw [if_pos c3], rfl⟩, fun c3 => ?_⟩
  rw [if_neg c3]
  obtain ⟨k, k1, rfl, k3⟩ := nI_nn c2
  rw [nI_leI (by omega) (by omega)] at c3
  rw [k3]
  exact ⟨k, rfl, by omega, by rw [b1.co k (by omega)], rfl⟩
theorem c_symbol (l : Launch) (d : Nat) {x : Int32} (g : g_Main K RJ o tl nx) (a : a_C I o tl s) : zi_C l (zx_rm d 0 0) M_Main_symbol [.ref o, .int x] K RJ I (fun r I2 => r = some (.int (gl_of s.2.2.2.1 s.2.2.2.2.sl.length (fun i => s.2.2.2.2.sl.getD i 0) x)) ∧ I2 = I) := by
  have hd := g.d
  obtain ⟨-, -, -, -, -, -, h9, h8, hB⟩ := a
  refine zi_of (by decide) (fun α => Nat.le_of_ble_eq_true rfl) (r_Main_symbol_0 l d o x g.k g.tR (by omega) g.t.k g.t.sy.1 (by omega) g.t.sy.2 ?_)
  rw [n_le0 h9 h8]
  unfold gl_of
  refine ⟨fun c => ⟨by rw [if_pos c], rfl⟩, fun c => ?_⟩
  obtain ⟨b1, b2⟩ := hB (by omega)
  have hsl := b2.sl
  rw [if_neg c, b1.sl.1]
  refine ⟨fun c2 => ⟨by rw [if_pos c2], rfl⟩, fun c2 => ?_⟩
  rw [if_neg c2]
  refine ⟨fun c3 => ⟨by rw [if_pos c3], rfl⟩, fun c3 => ?_⟩
  rw [if_neg c3]
  obtain ⟨k, k1, rfl, k3⟩ := nI_nn c2
  rw [nI_leI (by omega) (by omega)] at c3
  rw [k3]
  exact ⟨k, rfl, by omega, by rw [b1.sl.2 k (by omega)], rfl⟩
theorem c_table (l : Launch) (d : Nat) {x : Int32} (g : g_Main K RJ o tl nx) (a : a_C I o tl s) : zi_C l (zx_rm d 0 0) M_Main_table [.ref o, .int x] K RJ I (fun r I2 => r = some (.int (gl_of s.2.2.2.1 s.2.2.2.2.G s.2.2.2.2.pk x)) ∧ I2 = I) := by
  have hd := g.d
  obtain ⟨-, -, -, -, -, -, h9, h8, hB⟩ := a
  refine zi_of (by decide) (fun α => Nat.le_of_ble_eq_true rfl) (r_Main_table_0 l d o x g.k g.tR (by omega) g.t.k g.t.pi.1 (by omega) g.t.pi.2 ?_)
  rw [n_le0 h9 h8]
  unfold gl_of
  refine ⟨fun c => ⟨by rw [if_pos c], rfl⟩, fun c => ?_⟩
  obtain ⟨b1, b2⟩ := hB (by omega)
  have hG := b2.G
  rw [if_neg c, b1.pk.1]
  refine ⟨fun c2 => ⟨by rw [if_pos c2], rfl⟩, fun c2 => ?_⟩
  rw [if_neg c2]
  refine ⟨fun c3 => ⟨by rw [if_pos c3], rfl⟩, fun c3 => ?_⟩
  rw [if_neg c3]
  obtain ⟨k, k1, rfl, k3⟩ := nI_nn c2
  rw [nI_leI (by omega) (by omega)] at c3
  rw [k3]
  exact ⟨k, rfl, by omega, by rw [b1.pk.2 k (by omega)], rfl⟩
theorem c_length (l : Launch) (d : Nat) {x y : Int32} (g : g_Main K RJ o tl nx) (a : a_C I o tl s) : zi_C l (zx_rm (d + 1) 0 0) M_Main_length [.ref o, .int x, .int y] K RJ I (fun r I2 => r = some (.int (gl_len s x y)) ∧ I2 = I) := by
  have hd := g.d
  obtain ⟨-, -, -, -, -, -, h9, h8, hB⟩ := a
  have no : gl_len s x y = -1 → zi_X l (zx_rm (d + 1) 0 0) M_Main_length K RJ (fun r I2 => r = some (.int (gl_len s x y)) ∧ I2 = I) 41 [(0, .ref o), (1, .int x), (2, .int y)] [] I := fun e => r_Main_length_41 l d o x y (r_Main_length_42 l d o x y 0 g.k g.tR (by omega) g.t.k g.t.le.1 (by omega) g.t.le.2 ⟨fun _ => r_Main_length_62 l d o x y _ _ ⟨by rw [e], rfl⟩, fun c => absurd rfl c⟩)
  refine zi_of (by decide) (fun α => Nat.le_of_ble_eq_true rfl) (r_Main_length_0 l d o x y g.k g.tR (by omega) g.t.k ?_)
  rw [n_le0 h9 h8]
  refine ⟨fun c => no (by unfold gl_len; rw [if_pos c]), fun c => ?_⟩
  obtain ⟨b1, b2⟩ := hB (by omega)
  have hT := b2.T
  have hks := b2.ks
  rw [b1.T]
  refine ⟨fun c2 => no (by unfold gl_len; rw [if_neg c, if_pos c2]), fun c2 => ⟨fun c3 => no (by unfold gl_len; rw [if_neg c, if_neg c2, if_pos c3]), fun c3 => ⟨fun c4 => no (by unfold gl_len; rw [if_neg c, if_neg c2, if_neg c3, if_pos c4]), fun c4 => ?_⟩⟩⟩
  refine zi_of (by decide) (fun α => Nat.le_of_ble_eq_true rfl) (r_Block_symbolKinds_0 l d tl g.t.k ?_)
  rw [b1.ks.1, show (2 : Int32) = nI 2 from rfl, nI_add]
  refine ⟨_, rfl, fun c5 => no (by unfold gl_len; rw [if_neg c, if_neg c2, if_neg c3, if_neg c4, if_pos c5]), fun c5 => ?_⟩
  obtain ⟨k, k1, e1, k3⟩ := nI_nn c2
  obtain ⟨k', k1', e2, k3'⟩ := nI_nn c4
  have e : gl_len s x y = nI (s.2.2.2.2.ln k k') := by
    unfold gl_len
    rw [if_neg c, if_neg c2, if_neg c3, if_neg c4, if_neg c5, k3, k3']
  rw [e1, nI_leI (by omega) (by omega)] at c3
  rw [e2, nI_leI (by omega) (by omega)] at c5
  have gl := g.t.ls (t := k) (by omega)
  refine r_Main_length_42 l d o x y 1 g.k g.tR (by omega) g.t.k g.t.le.1 (by omega) g.t.le.2 ⟨fun z => absurd z (by decide), fun _ => ⟨k, e1, by omega, _, gl.1, by omega, _, gl.2, k', e2, by omega, r_Main_length_62 l d o x y _ _ ⟨?_, rfl⟩⟩⟩
  rw [b1.ln k (by omega) k' (by omega), e]
theorem c_block (l : Launch) (d : Nat) {x : Int32} (g : g_Main K RJ o tl nx) (a : a_C I o tl s) : zi_C l (zx_rm (d + 1) 0 0) M_Main_block [.ref o, .int x] K RJ I (fun r I2 => r = some (.int (gl_blk s x)) ∧ I2 = I) := by
  have hd := g.d
  obtain ⟨-, -, -, -, -, -, h9, h8, hB⟩ := a
  refine zi_of (by decide) (fun α => Nat.le_of_ble_eq_true rfl) (y_Main_block_0 l d o x g.k ?_)
  rw [n_eq0 h9 h8]
  refine ⟨fun c => ?_, fun c => zi_iret d_Main_block_8 rfl ⟨by unfold gl_blk; rw [if_pos c], rfl⟩⟩
  obtain ⟨b1, b2⟩ := hB (by omega)
  by_cases c0 : x = 0
  · subst c0
    refine zx_tableIn d_Main_block_10 (by decide) (by decide) (off := 34) (tgt := 44) rfl rfl (y_Main_block_44 l d o _ g.k g.tR (by omega) g.t.k (zi_iret d_Main_block_51 rfl ⟨?_, rfl⟩))
    unfold gl_blk
    rw [if_neg c, if_pos rfl, b1.og]
  by_cases c1 : x = 1
  · subst c1
    refine zx_tableIn d_Main_block_10 (by decide) (by decide) (off := 42) (tgt := 52) rfl rfl (y_Main_block_52 l d o _ g.k g.tR (by omega) g.t.k (zi_iret d_Main_block_59 rfl ⟨?_, rfl⟩))
    unfold gl_blk
    rw [if_neg c, if_neg c0, if_pos rfl, b1.sh.1]
  by_cases c2 : x = 2
  · subst c2
    refine zx_tableIn d_Main_block_10 (by decide) (by decide) (off := 50) (tgt := 60) rfl rfl (y_Main_block_60 l d o _ g.k g.tR (by omega) g.t.k (zi_iret d_Main_block_67 rfl ⟨?_, rfl⟩))
    unfold gl_blk
    rw [if_neg c, if_neg c0, if_neg c1, if_pos rfl, b1.sl.1]
  by_cases c3 : x = 3
  · subst c3
    refine zx_tableIn d_Main_block_10 (by decide) (by decide) (off := 58) (tgt := 68) rfl rfl (y_Main_block_68 l d o _ g.k g.tR (by omega) g.t.k (zi_iret d_Main_block_75 rfl ⟨?_, rfl⟩))
    unfold gl_blk
    rw [if_neg c, if_neg c0, if_neg c1, if_neg c2, if_pos rfl, b1.T]
  by_cases c4 : x = 4
  · subst c4
    refine zx_tableIn d_Main_block_10 (by decide) (by decide) (off := 66) (tgt := 76) rfl rfl (y_Main_block_76 l d o _ g.k g.tR (by omega) g.t.k (zi_iret d_Main_block_83 rfl ⟨?_, rfl⟩))
    unfold gl_blk
    rw [if_neg c, if_neg c0, if_neg c1, if_neg c2, if_neg c3, if_pos rfl, b1.ch]
  · have hout : x.toInt < 0 ∨ 4 < x.toInt := by
      have e0 : x.toInt ≠ (0 : Int32).toInt := fun h => c0 (Int32.toInt_inj.mp h)
      have e1 : x.toInt ≠ (1 : Int32).toInt := fun h => c1 (Int32.toInt_inj.mp h)
      have e2 : x.toInt ≠ (2 : Int32).toInt := fun h => c2 (Int32.toInt_inj.mp h)
      have e3 : x.toInt ≠ (3 : Int32).toInt := fun h => c3 (Int32.toInt_inj.mp h)
      have e4 : x.toInt ≠ (4 : Int32).toInt := fun h => c4 (Int32.toInt_inj.mp h)
      have t0 : (0 : Int32).toInt = 0 := by decide
      have t1 : (1 : Int32).toInt = 1 := by decide
      have t2 : (2 : Int32).toInt = 2 := by decide
      have t3 : (3 : Int32).toInt = 3 := by decide
      have t4 : (4 : Int32).toInt = 4 := by decide
      omega
    refine zx_tableOut d_Main_block_10 hout (tgt := 84) rfl (y_Main_block_84 l d o _ (zi_iret d_Main_block_85 rfl ⟨?_, rfl⟩))
    unfold gl_blk
    rw [if_neg c, if_neg c0, if_neg c1, if_neg c2, if_neg c3, if_neg c4]
end GT
