/-! A block as both sides hold it, and how it is written. -/
abbrev bk_B : Type := (Nat) × (Nat) × (List Nat) × (List Nat) × (List Nat) × (List Nat) × (Nat) × (Nat) × (Nat → Nat) × (Nat → Nat → Nat)
def bk_B.ch (B : bk_B) : Nat := B.1
def bk_B.og (B : bk_B) : Nat := B.2.1
def bk_B.sh (B : bk_B) : List Nat := B.2.2.1
def bk_B.co (B : bk_B) : List Nat := B.2.2.2.1
def bk_B.ks (B : bk_B) : List Nat := B.2.2.2.2.1
def bk_B.sl (B : bk_B) : List Nat := B.2.2.2.2.2.1
def bk_B.T (B : bk_B) : Nat := B.2.2.2.2.2.2.1
def bk_B.G (B : bk_B) : Nat := B.2.2.2.2.2.2.2.1
def bk_B.pk (B : bk_B) : Nat → Nat := B.2.2.2.2.2.2.2.2.1
def bk_B.ln (B : bk_B) : Nat → Nat → Nat := B.2.2.2.2.2.2.2.2.2
def bk_B.sy (B : bk_B) (k : Nat) : Nat := B.sl.getD k 0
def bk_ok (B : bk_B) : Prop := (B.ch < 65536) ∧ (B.og < 64) ∧ (B.sh.length ≤ 64) ∧ (B.co.length = B.sh.length) ∧ (∀ v ∈ B.sh, v < 256) ∧ (∀ v ∈ B.co, v < 256) ∧ (B.ks.length ≤ 256) ∧ (∀ v ∈ B.ks, v < 256) ∧ (B.sl.length ≤ 65) ∧ (∀ k, k < B.sl.length → B.sy k < B.ks.length + 2) ∧ (0 < B.T) ∧ (B.T ≤ 4) ∧ (B.G ≤ 63) ∧ (B.sl.length ≤ 8 * B.G) ∧ (∀ g, g < B.G → B.pk g < B.T) ∧ (∀ t, t < B.T → ∀ s, s < B.ks.length + 2 → 1 ≤ B.ln t s ∧ B.ln t s ≤ 12)
theorem bk_ok.ch {B : bk_B} (h : bk_ok B) : B.ch < 65536 := h.1
theorem bk_ok.og {B : bk_B} (h : bk_ok B) : B.og < 64 := h.2.1
theorem bk_ok.sh {B : bk_B} (h : bk_ok B) : B.sh.length ≤ 64 := h.2.2.1
theorem bk_ok.co {B : bk_B} (h : bk_ok B) : B.co.length = B.sh.length := h.2.2.2.1
theorem bk_ok.shb {B : bk_B} (h : bk_ok B) : ∀ v ∈ B.sh, v < 256 := h.2.2.2.2.1
theorem bk_ok.cob {B : bk_B} (h : bk_ok B) : ∀ v ∈ B.co, v < 256 := h.2.2.2.2.2.1
theorem bk_ok.ks {B : bk_B} (h : bk_ok B) : B.ks.length ≤ 256 := h.2.2.2.2.2.2.1
theorem bk_ok.ksb {B : bk_B} (h : bk_ok B) : ∀ v ∈ B.ks, v < 256 := h.2.2.2.2.2.2.2.1
theorem bk_ok.sl {B : bk_B} (h : bk_ok B) : B.sl.length ≤ 65 := h.2.2.2.2.2.2.2.2.1
theorem bk_ok.slb {B : bk_B} (h : bk_ok B) : ∀ k, k < B.sl.length → B.sy k < B.ks.length + 2 := h.2.2.2.2.2.2.2.2.2.1
theorem bk_ok.T0 {B : bk_B} (h : bk_ok B) : 0 < B.T := h.2.2.2.2.2.2.2.2.2.2.1
theorem bk_ok.T {B : bk_B} (h : bk_ok B) : B.T ≤ 4 := h.2.2.2.2.2.2.2.2.2.2.2.1
theorem bk_ok.G {B : bk_B} (h : bk_ok B) : B.G ≤ 63 := h.2.2.2.2.2.2.2.2.2.2.2.2.1
theorem bk_ok.yG {B : bk_B} (h : bk_ok B) : B.sl.length ≤ 8 * B.G := h.2.2.2.2.2.2.2.2.2.2.2.2.2.1
theorem bk_ok.pk {B : bk_B} (h : bk_ok B) : ∀ g, g < B.G → B.pk g < B.T := h.2.2.2.2.2.2.2.2.2.2.2.2.2.2.1
theorem bk_ok.ln {B : bk_B} (h : bk_ok B) : ∀ t, t < B.T → ∀ s, s < B.ks.length + 2 → 1 ≤ B.ln t s ∧ B.ln t s ≤ 12 := h.2.2.2.2.2.2.2.2.2.2.2.2.2.2.2
def a_Blk (I : zi_I) (b : Nat) (B : bk_B) : Prop := (I b 0 = nI B.ch) ∧ (I b 1 = nI B.og) ∧ (aL I b 2 (b + 1) B.sh) ∧ (∀ i, i < B.co.length → I (b + 2) i = nI (B.co.getD i 0)) ∧ (aL I b 5 (b + 3) B.ks) ∧ (aL I b 7 (b + 4) B.sl) ∧ (I b 9 = nI B.T) ∧ (∀ t, t < B.T → ∀ s, s < B.ks.length + 2 → I (b + 6 + t) s = nI (B.ln t s)) ∧ (a_Pk I b B.G B.pk)
theorem a_Blk.ch {I : zi_I} {b : Nat} {B : bk_B} (h : a_Blk I b B) : I b 0 = nI B.ch := h.1
theorem a_Blk.og {I : zi_I} {b : Nat} {B : bk_B} (h : a_Blk I b B) : I b 1 = nI B.og := h.2.1
theorem a_Blk.sh {I : zi_I} {b : Nat} {B : bk_B} (h : a_Blk I b B) : aL I b 2 (b + 1) B.sh := h.2.2.1
theorem a_Blk.co {I : zi_I} {b : Nat} {B : bk_B} (h : a_Blk I b B) : ∀ i, i < B.co.length → I (b + 2) i = nI (B.co.getD i 0) := h.2.2.2.1
theorem a_Blk.ks {I : zi_I} {b : Nat} {B : bk_B} (h : a_Blk I b B) : aL I b 5 (b + 3) B.ks := h.2.2.2.2.1
theorem a_Blk.sl {I : zi_I} {b : Nat} {B : bk_B} (h : a_Blk I b B) : aL I b 7 (b + 4) B.sl := h.2.2.2.2.2.1
theorem a_Blk.T {I : zi_I} {b : Nat} {B : bk_B} (h : a_Blk I b B) : I b 9 = nI B.T := h.2.2.2.2.2.2.1
theorem a_Blk.ln {I : zi_I} {b : Nat} {B : bk_B} (h : a_Blk I b B) : ∀ t, t < B.T → ∀ s, s < B.ks.length + 2 → I (b + 6 + t) s = nI (B.ln t s) := h.2.2.2.2.2.2.2.1
theorem a_Blk.pk {I : zi_I} {b : Nat} {B : bk_B} (h : a_Blk I b B) : a_Pk I b B.G B.pk := h.2.2.2.2.2.2.2.2
theorem a_Blk.keep {I I2 : zi_I} {b : Nat} {B : bk_B} {S : List Nat} (a : a_Blk I b B) (hT : B.T ≤ 4) (h : zf S I I2) (hS : ∀ q ∈ S, q < b ∨ b + 10 < q) : a_Blk I2 b B := by
  have e : ∀ q, b ≤ q → q ≤ b + 10 → I2 q = I q := fun q h1 h2 => h q (fun z => by have := hS q z; omega)
  refine ⟨?_, ?_, ⟨?_, ?_⟩, ?_, ⟨?_, ?_⟩, ⟨?_, ?_⟩, ?_, ?_, ⟨?_, ?_⟩⟩
  · rw [e _ (by omega) (by omega)]; exact a.ch
  · rw [e _ (by omega) (by omega)]; exact a.og
  · rw [e _ (by omega) (by omega)]; exact a.sh.1
  · rw [e _ (by omega) (by omega)]; exact a.sh.2
  · rw [e _ (by omega) (by omega)]; exact a.co
  · rw [e _ (by omega) (by omega)]; exact a.ks.1
  · rw [e _ (by omega) (by omega)]; exact a.ks.2
  · rw [e _ (by omega) (by omega)]; exact a.sl.1
  · rw [e _ (by omega) (by omega)]; exact a.sl.2
  · rw [e _ (by omega) (by omega)]; exact a.T
  · intro t ht s hs
    rw [e _ (by omega) (by omega)]
    exact a.ln t ht s hs
  · rw [e _ (by omega) (by omega)]; exact a.pk.1
  · rw [e _ (by omega) (by omega)]; exact a.pk.2
def sp_tabs (ln : Nat → Nat → Nat) (n : Nat) : ws_S → Nat → Nat → ws_S
  | s, _, 0 => s
  | s, t, j + 1 => sp_tabs ln n (sp_tab s (ln t) n) (t + 1) j
def sp_syms (B : bk_B) : ws_S → Nat → Nat → ws_S
  | s, _, 0 => s
  | s, k, j + 1 => sp_syms B (ws_put s (cd_c (B.ln (B.pk (k / 8))) (B.ks.length + 2) (B.sy k)) (B.ln (B.pk (k / 8)) (B.sy k))) (k + 1) j
def sp_head (B : bk_B) (s : ws_S) : ws_S := ws_put (ws_put (ws_put s 3227993 24) B.ch 16) B.og 6
def sp_mid (B : bk_B) (s : ws_S) : ws_S := ws_put (ws_put (sp_maps (uu B.ks B.ks.length) (sp_head B s)) B.T 3) B.G 6
def sp_pks (B : bk_B) (s : ws_S) : ws_S := sp_picks B.pk (sp_mid B s) (List.range B.T) 0 B.G
def sp_block (B : bk_B) (s : ws_S) : ws_S := sp_syms B (sp_tabs B.ln (B.ks.length + 2) (sp_pks B s) 0 B.T) 0 B.sl.length
theorem sp_picks_congr {f g : Nat → Nat} : ∀ (j i : Nat) (s : ws_S) (xs : List Nat), (∀ k, i ≤ k → k < i + j → f k = g k) → sp_picks f s xs i j = sp_picks g s xs i j
  | 0, _, _, _, _ => rfl
  | j + 1, i, s, xs, h => by
    have e := h i (Nat.le_refl _) (by omega)
    have ih := fun s xs => sp_picks_congr j (i + 1) s xs (fun k h1 h2 => h k (by omega) (by omega))
    unfold sp_picks
    rw [e, ih]
theorem ws_n_tabs (ln : Nat → Nat → Nat) (n : Nat) : ∀ (j t : Nat) (s : ws_S), ws_n s ≤ ws_n (sp_tabs ln n s t j)
  | 0, _, _ => Nat.le_refl _
  | j + 1, t, s => by
    have h1 := ws_n_tabs ln n j (t + 1) (sp_tab s (ln t) n)
    have h2 := ws_n_lens (ln t) n (ws_put s (ln t 0) 5) (ln t 0) 0
    rw [ws_n_put] at h2
    show ws_n s ≤ ws_n (sp_tabs ln n (sp_tab s (ln t) n) (t + 1) j)
    unfold sp_tab at h1 ⊢
    omega
theorem ws_n_syms (B : bk_B) : ∀ (j k : Nat) (s : ws_S), ws_n s ≤ ws_n (sp_syms B s k j)
  | 0, _, _ => Nat.le_refl _
  | j + 1, k, s => by
    have h1 := ws_n_syms B j (k + 1) (ws_put s (cd_c (B.ln (B.pk (k / 8))) (B.ks.length + 2) (B.sy k)) (B.ln (B.pk (k / 8)) (B.sy k)))
    rw [ws_n_put] at h1
    show ws_n s ≤ ws_n (sp_syms B (ws_put s (cd_c (B.ln (B.pk (k / 8))) (B.ks.length + 2) (B.sy k)) (B.ln (B.pk (k / 8)) (B.sy k))) (k + 1) j)
    omega
/-- the writer of blocks and its cells -/
def g_BW (K : zx_Kt) (RJ : zx_RJ) (o ro n : Nat) : Prop := ((K.2 o).1 = 12) ∧ (RJ.1 o 0 = o + 5) ∧ (g_W K RJ (o + 5) ro n) ∧ (RJ.1 o 1 = o + 1) ∧ (K.2 (o + 1) = (0, 16)) ∧ (RJ.1 o 2 = o + 2) ∧ (g_ML K RJ (o + 2)) ∧ (RJ.1 o 3 = o + 4) ∧ (K.2 (o + 4) = (3, 4)) ∧ (∀ t, t < 4 → RJ.1 (o + 4) t = o + 6 + 6 * t ∧ g_Codes K RJ (o + 6 + 6 * t) 66)
theorem g_BW.k {K : zx_Kt} {RJ : zx_RJ} {o ro n : Nat} (h : g_BW K RJ o ro n) : (K.2 o).1 = 12 := h.1
theorem g_BW.wR {K : zx_Kt} {RJ : zx_RJ} {o ro n : Nat} (h : g_BW K RJ o ro n) : RJ.1 o 0 = o + 5 := h.2.1
theorem g_BW.w {K : zx_Kt} {RJ : zx_RJ} {o ro n : Nat} (h : g_BW K RJ o ro n) : g_W K RJ (o + 5) ro n := h.2.2.1
theorem g_BW.mR {K : zx_Kt} {RJ : zx_RJ} {o ro n : Nat} (h : g_BW K RJ o ro n) : RJ.1 o 1 = o + 1 := h.2.2.2.1
theorem g_BW.mK {K : zx_Kt} {RJ : zx_RJ} {o ro n : Nat} (h : g_BW K RJ o ro n) : K.2 (o + 1) = (0, 16) := h.2.2.2.2.1
theorem g_BW.lR {K : zx_Kt} {RJ : zx_RJ} {o ro n : Nat} (h : g_BW K RJ o ro n) : RJ.1 o 2 = o + 2 := h.2.2.2.2.2.1
theorem g_BW.l {K : zx_Kt} {RJ : zx_RJ} {o ro n : Nat} (h : g_BW K RJ o ro n) : g_ML K RJ (o + 2) := h.2.2.2.2.2.2.1
theorem g_BW.cR {K : zx_Kt} {RJ : zx_RJ} {o ro n : Nat} (h : g_BW K RJ o ro n) : RJ.1 o 3 = o + 4 := h.2.2.2.2.2.2.2.1
theorem g_BW.cK {K : zx_Kt} {RJ : zx_RJ} {o ro n : Nat} (h : g_BW K RJ o ro n) : K.2 (o + 4) = (3, 4) := h.2.2.2.2.2.2.2.2.1
theorem g_BW.c {K : zx_Kt} {RJ : zx_RJ} {o ro n : Nat} (h : g_BW K RJ o ro n) : ∀ t, t < 4 → RJ.1 (o + 4) t = o + 6 + 6 * t ∧ g_Codes K RJ (o + 6 + 6 * t) 66 := h.2.2.2.2.2.2.2.2.2
section BW
variable {K : zx_Kt} {RJ : zx_RJ} {o ro n b : Nat} {B : bk_B}
def bw_S (o ro : Nat) : List Nat := ro :: (ro + 1) :: List.range' o 30
theorem bw_mem {q : Nat} : q ∈ bw_S o ro ↔ q = ro ∨ q = ro + 1 ∨ (o ≤ q ∧ q < o + 30) := by
  unfold bw_S
  rw [List.mem_cons, List.mem_cons, List.mem_range'_1]
theorem t_ws2 (l : Launch) (d : Nat) {Q : zi_Q} (g : g_BW K RJ o ro n) (gb : g_Block K RJ b) (hd : o + 29 < b) (hro : ro + 1 < o) (hB : bk_ok B) (hk : B.ks.length ≤ 64) :
    ∀ (j k : Nat) (s : ws_S) (I : zi_I), k + j = B.sl.length → a_Blk I b B → (∀ t, t < B.T → a_Codes I (o + 6 + 6 * t) (B.ks.length + 2) (B.ln t)) → a_W I (o + 5) ro n s → ws_n (sp_syms B s k j) ≤ 8 * n →
      (∀ I2, a_W I2 (o + 5) ro n (sp_syms B s k j) → zf [o + 5, ro, ro + 1] I I2 → Q none I2) →
      zi_X l (zx_rm (d + 3) 0 0) M_BlockWriter_writeSymbols K RJ Q 2 [(0, .ref o), (1, .ref b), (2, .int (nI k))] [] I := by
  have hsl := hB.sl
  intro j
  induction j with
  | zero =>
    intro k s I hkj a ac aw hn q
    refine r_BlockWriter_writeSymbols_2 l (d + 2) o b _ gb.k gb.sy.1 (by omega) gb.sy.2 g.k g.wR (by omega) g.cR (by omega) g.cK gb.le.1 (by omega) gb.le.2 g.w.1 ⟨fun _ => q I aw zf_refl, fun c => ?_⟩
    rw [a.sl.1, nI_leI (by omega) (by omega)] at c
    omega
  | succ j ih =>
    intro k s I hkj a ac aw hn q
    have hG := hB.G
    have hyG := hB.yG
    have hT := hB.T
    have hp := hB.pk (k / 8) (by omega)
    have hs1 : B.sy k < B.ks.length + 2 := hB.slb k (by omega)
    have hl1 := hB.ln _ hp _ hs1
    have hn2 := Nat.le_trans (ws_n_syms B j (k + 1) _) hn
    rw [ws_n_put] at hn2
    have hcl := Nat.lt_of_lt_of_le (cd_c_lt (B.ln (B.pk (k / 8))) (B.ks.length + 2) (B.sy k)) (two_pow_12 hl1.2)
    have gc := g.c (B.pk (k / 8)) (by omega)
    have gl := gb.ls (t := B.pk (k / 8)) (by omega)
    have esy : I (b + 4) k = nI (B.sy k) := a.sl.2 k (by omega)
    refine r_BlockWriter_writeSymbols_2 l (d + 2) o b _ gb.k gb.sy.1 (by omega) gb.sy.2 g.k g.wR (by omega) g.cR (by omega) g.cK gb.le.1 (by omega) gb.le.2 g.w.1 ⟨fun c => ?_, fun _ => zi_mono (c_pickOfSymbol l (d + 2) gb a.pk.1 hG (by omega)) ?_⟩
    · rw [a.sl.1, nI_leI (by omega) (by omega)] at c
      omega
    · rintro r I2 ⟨rfl, rfl⟩
      rw [a.pk.2 _ (by omega)]
      refine ⟨_, rfl, k, rfl, by omega, B.pk (k / 8), rfl, by omega, o + 6 + 6 * B.pk (k / 8), gc.1, by omega, gc.2.1, ?_⟩
      rw [esy]
      refine zi_mono (c_codeOf l (d + 2) gc.2 (ac _ hp) (by omega) hs1) ?_
      rintro r I3 ⟨rfl, rfl⟩
      refine ⟨_, rfl, B.pk (k / 8), rfl, by omega, b + 6 + B.pk (k / 8), gl.1, by omega, 258, gl.2, B.sy k, rfl, by omega, ?_⟩
      rw [a.ln _ hp _ hs1]
      refine zi_mono (c_put l d g.w aw (by omega) (by omega) hn2) ?_
      rintro r I4 ⟨rfl, v1, v2⟩
      rw [nI_1]
      exact ⟨rfl, ih (k + 1) _ I4 (by omega) (a.keep hT v2 (fun q hq => by simp only [List.mem_cons, List.not_mem_nil, or_false] at hq; omega)) (fun t ht => (ac t ht).keep v2 (fun q hq => by simp only [List.mem_cons, List.not_mem_nil, or_false] at hq; omega)) v1 hn (fun I5 y1 y2 => q I5 y1 (zf_trans v2 y2))⟩
theorem c_writeSymbols (l : Launch) (d : Nat) {I : zi_I} {s : ws_S} (g : g_BW K RJ o ro n) (gb : g_Block K RJ b) (hd : o + 29 < b) (hro : ro + 1 < o) (hB : bk_ok B) (hk : B.ks.length ≤ 64) (a : a_Blk I b B) (ac : ∀ t, t < B.T → a_Codes I (o + 6 + 6 * t) (B.ks.length + 2) (B.ln t)) (aw : a_W I (o + 5) ro n s) (hn : ws_n (sp_syms B s 0 B.sl.length) ≤ 8 * n) :
    zi_C l (zx_rm (d + 3) 0 0) M_BlockWriter_writeSymbols [.ref o, .ref b] K RJ I (fun r I2 => r = none ∧ a_W I2 (o + 5) ro n (sp_syms B s 0 B.sl.length) ∧ zf [o + 5, ro, ro + 1] I I2) :=
  zi_of (by decide) (fun α => Nat.le_of_ble_eq_true rfl) (r_BlockWriter_writeSymbols_0 l (d + 2) o b (t_ws2 (B := B) l d g gb hd hro hB hk B.sl.length 0 s I (by omega) a ac aw hn (fun I2 y1 y2 => ⟨rfl, y1, y2⟩)))
theorem t_wb74 (l : Launch) (d : Nat) {Q : zi_Q} (g : g_BW K RJ o ro n) (gb : g_Block K RJ b) (hd : o + 29 < b) (hro : ro + 1 < o) (hB : bk_ok B) (hk : B.ks.length ≤ 64) :
    ∀ (j t : Nat) (s : ws_S) (I : zi_I), t + j = B.T → a_Blk I b B → (∀ t', t' < t → a_Codes I (o + 6 + 6 * t') (B.ks.length + 2) (B.ln t')) → a_W I (o + 5) ro n s → ws_n (sp_syms B (sp_tabs B.ln (B.ks.length + 2) s t j) 0 B.sl.length) ≤ 8 * n →
      (∀ I2, a_W I2 (o + 5) ro n (sp_syms B (sp_tabs B.ln (B.ks.length + 2) s t j) 0 B.sl.length) → zf (bw_S o ro) I I2 → Q none I2) →
      zi_X l (zx_rm (d + 4) 0 0) M_BlockWriter_writeBlock K RJ Q 74 [(0, .ref o), (1, .ref b), (2, .int (nI t))] [] I := by
  have hT := hB.T
  intro j
  induction j with
  | zero =>
    intro t s I htj a ac aw hn q
    obtain rfl : t = B.T := by omega
    refine r_BlockWriter_writeBlock_74 l (d + 3) o b _ gb.k g.k gb.le.1 (by omega) gb.le.2 g.cR (by omega) g.cK ⟨fun _ => zi_mono (c_writeSymbols l d g gb hd hro hB hk a ac aw hn) ?_, fun c => ?_⟩
    · rintro r I2 ⟨rfl, v1, v2⟩
      exact ⟨rfl, q I2 v1 (zf_mono v2 (fun x hx => by rw [bw_mem]; simp only [List.mem_cons, List.not_mem_nil, or_false] at hx; omega))⟩
    · rw [a.T, nI_leI (by omega) (by omega)] at c
      omega
  | succ j ih =>
    intro t s I htj a ac aw hn q
    have gc := g.c t (by omega)
    have gl := gb.ls (t := t) (by omega)
    have hn2 : ws_n (sp_tab s (B.ln t) (B.ks.length + 2)) ≤ 8 * n := Nat.le_trans (Nat.le_trans (ws_n_tabs B.ln (B.ks.length + 2) j (t + 1) _) (ws_n_syms B _ _ _)) hn
    refine r_BlockWriter_writeBlock_74 l (d + 3) o b _ gb.k g.k gb.le.1 (by omega) gb.le.2 g.cR (by omega) g.cK ⟨fun c => ?_, fun _ => ⟨t, rfl, by omega, b + 6 + t, gl.1, by omega, zi_mono (c_symbolKinds l (d + 3) gb a.ks.1) ?_⟩⟩
    · rw [a.T, nI_leI (by omega) (by omega)] at c
      omega
    · rintro r I2 ⟨rfl, rfl⟩
      refine ⟨_, rfl, zi_mono (c_writeLengths (N := 258) (f := B.ln t) l d ⟨g.k, g.wR, by omega, g.w, gl.2, by simp only [List.mem_cons, List.not_mem_nil, or_false, not_or]; omega⟩ (by omega) (by omega) (by decide) (fun i hi => by have := hB.ln t (by omega) i hi; omega) (a.ln t (by omega)) aw hn2) ?_⟩
      rintro r I3 ⟨rfl, v1, v2⟩
      have k3 : ∀ q ∈ [o + 5, ro, ro + 1], q < b ∨ b + 10 < q := fun q hq => by simp only [List.mem_cons, List.not_mem_nil, or_false] at hq; omega
      have a3 := a.keep hT v2 k3
      refine ⟨rfl, t, rfl, by omega, o + 6 + 6 * t, gc.1, by omega, t, rfl, by omega, b + 6 + t, gl.1, by omega, zi_mono (c_symbolKinds l (d + 3) gb a3.ks.1) ?_⟩
      rintro r I4 ⟨rfl, rfl⟩
      refine ⟨_, rfl, gc.2.1, zi_mono (c_setTo (n := B.ks.length + 2) (f := B.ln t) l (d + 1) gc.2 gl.2 (by omega) (by omega) (by omega) (by decide) (hB.ln t (by omega)) (a3.ln t (by omega))) ?_⟩
      rintro r I5 ⟨rfl, u1, u2⟩
      rw [nI_1]
      have k5 : ∀ q ∈ [o + 6 + 6 * t + 1, o + 6 + 6 * t + 2, o + 6 + 6 * t + 3, o + 6 + 6 * t + 4, o + 6 + 6 * t + 5], q < b ∨ b + 10 < q := fun q hq => by simp only [List.mem_cons, List.not_mem_nil, or_false] at hq; omega
      have z : zf (bw_S o ro) I2 I5 := zf_trans (zf_mono v2 (fun x hx => by rw [bw_mem]; simp only [List.mem_cons, List.not_mem_nil, or_false] at hx; omega)) (zf_mono u2 (fun x hx => by rw [bw_mem]; simp only [List.mem_cons, List.not_mem_nil, or_false] at hx; omega))
      refine ⟨rfl, ih (t + 1) _ I5 (by omega) (a3.keep hT u2 k5) (fun t' ht' => ?_) (v1.keep u2 (by simp only [List.mem_cons, List.not_mem_nil, or_false, not_or]; omega) (by simp only [List.mem_cons, List.not_mem_nil, or_false, not_or]; omega) (by simp only [List.mem_cons, List.not_mem_nil, or_false, not_or]; omega)) hn (fun I6 y1 y2 => q I6 y1 (zf_trans z y2))⟩
      by_cases e : t' = t
      · rw [e]
        exact u1
      · exact ((ac t' (by omega)).keep v2 (fun q hq => by simp only [List.mem_cons, List.not_mem_nil, or_false] at hq; omega)).keep u2 (fun q hq => by simp only [List.mem_cons, List.not_mem_nil, or_false] at hq; omega)
theorem c_writeBlock (l : Launch) (d : Nat) {I : zi_I} {s : ws_S} (g : g_BW K RJ o ro n) (gb : g_Block K RJ b) (hd : o + 29 < b) (hro : ro + 1 < o) (hB : bk_ok B) (hk : B.ks.length ≤ 64) (a : a_Blk I b B) (aw : a_W I (o + 5) ro n s) (hn : ws_n (sp_block B s) ≤ 8 * n) :
    zi_C l (zx_rm (d + 4) 0 0) M_BlockWriter_writeBlock [.ref o, .ref b] K RJ I (fun r I2 => r = none ∧ a_W I2 (o + 5) ro n (sp_block B s) ∧ zf (bw_S o ro) I I2) := by
  have hT := hB.T
  have hG := hB.G
  have hch := hB.ch
  have hog := hB.og
  have n4 : ws_n (sp_pks B s) ≤ 8 * n := Nat.le_trans (Nat.le_trans (ws_n_tabs B.ln (B.ks.length + 2) B.T 0 _) (ws_n_syms B _ _ _)) hn
  have n3 : ws_n (sp_mid B s) ≤ 8 * n := Nat.le_trans (ws_n_picks B.pk B.G _ _ 0) n4
  have n3' := n3
  unfold sp_mid at n3'
  rw [ws_n_put, ws_n_put] at n3'
  have n2 : ws_n (sp_maps (uu B.ks B.ks.length) (sp_head B s)) ≤ 8 * n := by omega
  have n1 := Nat.le_trans (ws_n_mapsL (uu B.ks B.ks.length) 16 (ws_put (sp_head B s) (mp (fun i => an (uu B.ks B.ks.length) (16 * i) 16) 16) 16) 0) n2
  rw [ws_n_put] at n1
  unfold sp_head at n1
  rw [ws_n_put, ws_n_put, ws_n_put] at n1
  have kp : ∀ {S : List Nat}, (∀ q ∈ S, q < b ∨ b + 10 < q) → ∀ {I I2 : zi_I}, a_Blk I b B → zf S I I2 → a_Blk I2 b B := fun {_} h {_ _} a z => a.keep hT z h
  have k3 : ∀ q ∈ [o + 5, ro, ro + 1], q < b ∨ b + 10 < q := fun q hq => by simp only [List.mem_cons, List.not_mem_nil, or_false] at hq; omega
  have z3 : ∀ {I I2 : zi_I}, zf [o + 5, ro, ro + 1] I I2 → zf (bw_S o ro) I I2 := fun {_ _} h => zf_mono h (fun x hx => by rw [bw_mem]; simp only [List.mem_cons, List.not_mem_nil, or_false] at hx; omega)
  refine zi_of (by decide) (fun α => Nat.le_of_ble_eq_true rfl) (r_BlockWriter_writeBlock_0 l (d + 3) o b g.k g.wR (by omega) g.w.1 gb.k (zi_mono (c_put (x := 3227993) (k := 24) l (d + 1) g.w aw (by decide) (by decide) (by omega)) ?_))
  rintro r I1 ⟨rfl, w1, f1⟩
  have a1 := kp k3 a f1
  refine ⟨rfl, ?_⟩
  rw [a1.ch]
  refine zi_mono (c_put (x := B.ch) (k := 16) l (d + 1) g.w w1 (by omega) (by decide) (by rw [ws_n_put]; omega)) ?_
  rintro r I2 ⟨rfl, w2, f2⟩
  have a2 := kp k3 a1 f2
  refine ⟨rfl, ?_⟩
  rw [a2.og]
  refine zi_mono (c_put (x := B.og) (k := 6) l (d + 1) g.w w2 (by omega) (by decide) (by rw [ws_n_put, ws_n_put]; omega)) ?_
  rintro r I3 ⟨rfl, w3, f3⟩
  have a3 := kp k3 a2 f3
  refine ⟨rfl, zi_mono (c_writeMap (q := o + 1) (kb := b + 3) (ks := B.ks) l d ⟨g.k, g.wR, by omega, g.w, g.mR, by omega, g.mK, gb.k, gb.kl.1, by omega, gb.kl.2, fun x hx => by simp only [List.mem_cons, List.not_mem_nil, or_false, not_or] at hx ⊢; omega, fun x hx => by simp only [List.mem_cons, List.not_mem_nil, or_false] at hx; omega⟩ hB.ksb hB.ks a3.ks w3 n2) ?_⟩
  rintro r I4 ⟨rfl, w4, f4⟩
  have a4 := kp (fun q hq => by simp only [List.mem_cons, List.not_mem_nil, or_false] at hq; omega) a3 f4
  refine ⟨rfl, ?_⟩
  rw [a4.T]
  refine zi_mono (c_put (x := B.T) (k := 3) l (d + 1) g.w w4 (by omega) (by decide) (show ws_n (sp_maps (uu B.ks B.ks.length) (sp_head B s)) + 3 ≤ 8 * n by omega)) ?_
  rintro r I5 ⟨rfl, w5, f5⟩
  have a5 := kp k3 a4 f5
  refine ⟨rfl, ?_⟩
  rw [a5.pk.1]
  refine zi_mono (c_put (x := B.G) (k := 6) l (d + 1) g.w w5 (by omega) (by decide) (by rw [ws_n_put]; show ws_n (sp_maps (uu B.ks B.ks.length) (sp_head B s)) + 3 + 6 ≤ 8 * n; omega)) ?_
  rintro r I6 ⟨rfl, w6, f6⟩
  have a6 := kp k3 a5 f6
  have el : ((List.range B.G).map B.pk).length = B.G := by simp
  have eg : ∀ k, k < B.G → ((List.range B.G).map B.pk).getD k 0 = B.pk k := fun k hk => by simp [List.getD, hk]
  have ep : ∀ s, sp_picks (fun i => ((List.range B.G).map B.pk).getD i 0) s (List.range B.T) 0 ((List.range B.G).map B.pk).length = sp_picks B.pk s (List.range B.T) 0 B.G := fun s => by
    rw [el]
    exact sp_picks_congr B.G 0 s _ (fun k _ hk => eg k (by omega))
  refine ⟨rfl, zi_mono (c_writePicks (q := o + 2) (pb := b + 10) (ps := (List.range B.G).map B.pk) (T := B.T) l d ⟨g.k, g.wR, by omega, g.w, g.lR, by omega, g.l, gb.k, gb.pi.1, by omega, gb.pi.2, fun x hx => by simp only [List.mem_cons, List.not_mem_nil, or_false, not_or] at hx ⊢; omega, fun x hx => by simp only [List.mem_cons, List.not_mem_nil, or_false, not_or] at hx ⊢; omega⟩ (fun p hp => by
    rw [List.mem_map] at hp
    obtain ⟨k, hk, rfl⟩ := hp
    exact hB.pk k (List.mem_range.mp hk)) hT (by omega) w6 a6.T ⟨by rw [el]; exact a6.pk.1, fun i hi => by rw [eg i (by omega)]; exact a6.pk.2 i (by omega)⟩ (by rw [ep]; exact n4)) ?_⟩
  rintro r I7 ⟨rfl, w7, f7⟩
  have a7 := kp (fun q hq => by simp only [List.mem_cons, List.not_mem_nil, or_false] at hq; omega) a6 f7
  rw [ep] at w7
  have zz : zf (bw_S o ro) I I7 := zf_trans (zf_trans (zf_trans (zf_trans (zf_trans (zf_trans (z3 f1) (z3 f2)) (z3 f3)) (zf_mono f4 (fun x hx => by rw [bw_mem]; simp only [List.mem_cons, List.not_mem_nil, or_false] at hx; omega))) (z3 f5)) (z3 f6)) (zf_mono f7 (fun x hx => by rw [bw_mem]; simp only [List.mem_cons, List.not_mem_nil, or_false] at hx; omega))
  exact ⟨rfl, t_wb74 (B := B) l d g gb hd hro hB hk B.T 0 _ I7 (by omega) a7 (fun _ h => absurd h (by omega)) w7 hn (fun I8 y1 y2 => ⟨rfl, y1, zf_trans zz y2⟩)⟩
end BW
