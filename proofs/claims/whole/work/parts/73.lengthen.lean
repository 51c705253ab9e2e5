/-! Pieces are lengthened, by both sides. -/
theorem le_s (f : Nat → Nat) (j i run v : Nat) (out : List Nat) : le_go f (j + 1) i run v out = if run = 4 then le_go f j (i + 1) 0 v (out ++ List.replicate (f i) v) else le_go f j (i + 1) (if 0 < run ∧ f i = v then run + 1 else 1) (f i) (out ++ [f i]) := rfl
/-- how long it may be -/
def le_iv (i run len : Nat) : Prop := run ≤ 4 ∧ ∃ r, 5 * r + run ≤ i ∧ len ≤ i + 254 * r
theorem le_iv_bd {i run len : Nat} (h : le_iv i run len) (hi : i ≤ 64) : len ≤ 3112 := by
  obtain ⟨_, r, h1, h2⟩ := h
  omega
theorem le_iv_4 {i len x : Nat} (h : le_iv i 4 len) (hx : x < 256) : le_iv (i + 1) 0 (len + x) := by
  obtain ⟨_, r, h1, h2⟩ := h
  exact ⟨by omega, r + 1, by omega, by omega⟩
theorem le_iv_1 {i run len : Nat} {P : Prop} [Decidable P] (h : le_iv i run len) (hr : run ≠ 4) : le_iv (i + 1) (if P then run + 1 else 1) (len + 1) := by
  obtain ⟨h0, r, h1, h2⟩ := h
  split
  · exact ⟨by omega, r, by omega, by omega⟩
  · exact ⟨by omega, r, by omega, by omega⟩
theorem le_fin {f : Nat → Nat} : ∀ (j i run v : Nat) (out : List Nat), (∀ k, i ≤ k → k < i + j → f k < 256) → le_iv i run out.length → le_iv (i + j) (le_go f j i run v out).2 (le_go f j i run v out).1.length
  | 0, _, _, _, _, _, h => h
  | j + 1, i, run, v, out, hf, h => by
    rw [le_s, show i + (j + 1) = i + 1 + j by omega]
    have hx := hf i (Nat.le_refl _) (by omega)
    by_cases e : run = 4
    · rw [if_pos e]
      refine le_fin j (i + 1) 0 v _ (fun k h1 h2 => hf k (by omega) (by omega)) ?_
      rw [List.length_append, List.length_replicate]
      rw [e] at h
      exact le_iv_4 h hx
    · rw [if_neg e]
      refine le_fin j (i + 1) _ (f i) _ (fun k h1 h2 => hf k (by omega) (by omega)) ?_
      rw [List.length_append, List.length_singleton]
      exact le_iv_1 h e
theorem le_lt {f : Nat → Nat} : ∀ (j i run v : Nat) (out : List Nat), (∀ k, i ≤ k → k < i + j → f k < 256) → v < 256 → (∀ x ∈ out, x < 256) → ∀ x ∈ (le_go f j i run v out).1, x < 256
  | 0, _, _, _, _, _, _, h => h
  | j + 1, i, run, v, out, hf, hv, h => by
    rw [le_s]
    have hx := hf i (Nat.le_refl _) (by omega)
    by_cases e : run = 4
    · rw [if_pos e]
      refine le_lt j (i + 1) 0 v _ (fun k h1 h2 => hf k (by omega) (by omega)) hv (fun x hx2 => ?_)
      rcases List.mem_append.mp hx2 with hx2 | hx2
      · exact h x hx2
      · rw [List.mem_replicate] at hx2
        rw [hx2.2]
        exact hv
    · rw [if_neg e]
      refine le_lt j (i + 1) _ (f i) _ (fun k h1 h2 => hf k (by omega) (by omega)) hx (fun x hx2 => ?_)
      rcases List.mem_append.mp hx2 with hx2 | hx2
      · exact h x hx2
      · rw [List.mem_singleton] at hx2
        rw [hx2]
        exact hx
theorem take_add (L : List Nat) (v N : Nat) : (L.take N ++ [v]).take N = (L ++ [v]).take N := by
  by_cases h : L.length ≤ N
  · rw [List.take_of_length_le h]
  · rw [List.take_append_of_le_length (by rw [List.length_take]; omega), List.take_append_of_le_length (by omega), List.take_take, Nat.min_self]
section LE
variable {K : zx_Kt} {RJ : zx_RJ} {b ro N n m : Nat} {f : Nat → Nat} {fs : List Nat}
theorem c_Row_addT (l : Launch) (d : Nat) {I : zi_I} {v : Nat} {L : List Nat} (g : g_Row K RJ ro N) (a : a_Row I ro N (L.take N)) (hv : v < 256) : zi_C l (zx_rm d 0 0) M_Row_add [.ref ro, .int (nI v)] K RJ I (fun r I2 => r = none ∧ a_Row I2 ro N ((L ++ [v]).take N) ∧ zf [ro, ro + 1] I I2) := by
  by_cases h : (L.take N).length < N
  · refine zi_mono (c_Row_add l d g a h hv) ?_
    rintro r I2 ⟨rfl, v1, v2⟩
    refine ⟨rfl, ?_, v2⟩
    rw [← take_add, List.take_of_length_le (by rw [List.length_append, List.length_singleton]; omega)]
    exact v1
  · obtain ⟨g1, g2, g3, g4⟩ := g
    have hl := a.1
    refine zi_of (by decide) (fun α => Nat.le_of_ble_eq_true rfl) (r_Row_add_0 l d ro _ g1 g2 (by omega) g3 ⟨fun _ => ⟨rfl, ?_, zf_refl⟩, fun c => ?_⟩)
    · rw [← take_add, List.take_append_of_le_length (by omega), List.take_of_length_le (by omega)]
      exact a
    · rw [a.2.1, nI_leI (by omega) (by omega)] at c
      omega
theorem t_le85 (l : Launch) (d : Nat) {Q : zi_Q} {x2 x3 x5 : Int32} {many v : Nat} {L : List Nat} (g : g_Row K RJ ro N) (hm : many < 2 ^ 20) (hv : v < 256) :
    ∀ (j k : Nat) (I : zi_I), k + j = many → a_Row I ro N ((L ++ List.replicate k v).take N) →
      (∀ I2, a_Row I2 ro N ((L ++ List.replicate many v).take N) → zf [ro, ro + 1] I I2 → zi_X l (zx_rm (d + 1) 0 0) M_BlockReader_lengthen K RJ Q 13 [(0, .ref b), (1, .ref ro), (2, .int x2), (3, .int x3), (4, .int (nI v)), (5, .int (x5 + 1))] [] I2) →
      zi_X l (zx_rm (d + 1) 0 0) M_BlockReader_lengthen K RJ Q 85 [(0, .ref b), (1, .ref ro), (2, .int x2), (3, .int x3), (4, .int (nI v)), (5, .int x5), (6, .int (nI many)), (7, .int (nI k))] [] I := by
  intro j
  induction j with
  | zero =>
    intro k I hk a q
    obtain rfl : k = many := by omega
    exact r_BlockReader_lengthen_85 l d b ro _ _ _ _ _ _ g.1 ⟨fun _ => q I a zf_refl, fun c => absurd (nI_le (Nat.le_refl _) (by omega)) c⟩
  | succ j ih =>
    intro k I hk a q
    refine r_BlockReader_lengthen_85 l d b ro _ _ _ _ _ _ g.1 ⟨fun c => ?_, fun _ => zi_mono (c_Row_addT l d g a hv) ?_⟩
    · rw [nI_leI (by omega) (by omega)] at c
      omega
    · rintro r I2 ⟨rfl, v1, v2⟩
      rw [nI_1]
      rw [List.append_assoc, ← List.replicate_succ'] at v1
      exact ⟨rfl, ih (k + 1) I2 (by omega) v1 (fun I3 y1 y2 => q I3 y1 (zf_trans v2 y2))⟩
theorem t_le13 (l : Launch) (d : Nat) {Q : zi_Q} (gb : g_Block K RJ b) (g : g_Row K RJ ro N) (hd : ro + 1 < b) (hn : n ≤ 64) (hN : N ≤ 2000) (hf : ∀ i, i < n → f i < 256) (hfs : fs.length ≤ N) :
    ∀ (j i run v : Nat) (out : List Nat) (I : zi_I), i + j = n → a_Sh I b n f → a_Row I ro N ((fs ++ out).take N) → le_iv i run out.length → v < 256 →
      (∀ r I2, a_Row I2 ro N ((fs ++ (le_go f j i run v out).1).take N) → r = some (.int (if (le_go f j i run v out).2 = 4 then -13 else if fs.length + (le_go f j i run v out).1.length ≤ N then 0 else 1)) → zf [ro, ro + 1] I I2 → Q r I2) →
      zi_X l (zx_rm (d + 1) 0 0) M_BlockReader_lengthen K RJ Q 13 [(0, .ref b), (1, .ref ro), (2, .int (nI run)), (3, .int (nI (fs.length + out.length))), (4, .int (nI v)), (5, .int (nI i))] [] I := by
  intro j
  induction j with
  | zero =>
    intro i run v out I hi as ar hiv hv q
    obtain rfl : i = n := by omega
    have hbd := le_iv_bd hiv (by omega)
    have hr4 := hiv.1
    have gn := g.2.2.2
    refine r_BlockReader_lengthen_13 l d b ro _ _ _ _ gb.k g.1 g.2.1 (by omega) g.2.2.1 gb.sh.1 (by omega) gb.sh.2 ⟨fun _ => ⟨fun c => ⟨fun c2 => ?_, fun c2 => ?_⟩, fun c => ?_⟩, fun c => ?_⟩
    · rw [show (4 : Int32) = nI 4 from rfl, nI_eq (by omega) (by omega)] at c
      rw [nI_leI (by omega) (by omega)] at c2
      refine r_BlockReader_lengthen_132 l d b ro _ _ _ _ _ (q _ I ar ?_ zf_refl)
      show _ = some (Value.int (if run = 4 then -13 else if fs.length + out.length ≤ N then 0 else 1))
      rw [if_neg c, if_pos c2]
    · rw [show (4 : Int32) = nI 4 from rfl, nI_eq (by omega) (by omega)] at c
      rw [nI_leI (by omega) (by omega)] at c2
      refine r_BlockReader_lengthen_132 l d b ro _ _ _ _ _ (q _ I ar ?_ zf_refl)
      show _ = some (Value.int (if run = 4 then -13 else if fs.length + out.length ≤ N then 0 else 1))
      rw [if_neg c, if_neg c2]
    · rw [show (4 : Int32) = nI 4 from rfl, nI_eq (by omega) (by omega)] at c
      refine q _ I ar ?_ zf_refl
      show _ = some (Value.int (if run = 4 then -13 else if fs.length + out.length ≤ N then 0 else 1))
      rw [if_pos c]
    · rw [as.1, nI_leI (by omega) (by omega)] at c
      omega
  | succ j ih =>
    intro i run v out I hi as ar hiv hv q
    have hr4 := hiv.1
    have hfi := hf i (by omega)
    have gn := g.2.2.2
    have es : I (b + 1) i = nI (f i) := as.2 i (by omega)
    rw [le_s] at q
    -- one byte more
    have one : ∀ run2, ¬ run = 4 → run2 = (if 0 < run ∧ f i = v then run + 1 else 1) → zi_X l (zx_rm (d + 1) 0 0) M_BlockReader_lengthen K RJ Q 67 [(0, .ref b), (1, .ref ro), (2, .int (nI run)), (3, .int (nI (fs.length + out.length))), (4, .int (nI v)), (5, .int (nI i)), (6, .int 1)] [.int (nI run2)] I := fun run2 hne hr2 => by
      rw [if_neg hne] at q
      refine r_BlockReader_lengthen_67 l d b ro _ _ _ _ _ _ gb.k gb.sh.1 (by omega) gb.sh.2 ⟨i, rfl, by omega, r_BlockReader_lengthen_77 l d b ro _ _ _ _ _ ?_⟩
      rw [es, show (1 : Int32) = nI 1 from rfl, nI_add]
      refine t_le85 (L := fs ++ out) (N := N) (many := 1) (v := f i) l d g (by decide) hfi 1 0 I (by omega) (by rw [List.replicate_zero, List.append_nil]; exact ar) (fun I2 y1 y2 => ?_)
      rw [nI_1]
      have hiv2 : le_iv (i + 1) run2 (out ++ [f i]).length := by
        rw [List.length_append, List.length_singleton, hr2]
        exact le_iv_1 hiv hne
      have y3 : a_Row I2 ro N ((fs ++ (out ++ [f i])).take N) := by
        rw [← List.append_assoc]
        exact y1
      have := ih (i + 1) run2 (f i) (out ++ [f i]) I2 (by omega) (as.keep y2 (by simp; omega) (by simp; omega)) y3 hiv2 hfi (fun r I3 w1 w2 w3 => q r I3 (by rw [← hr2]; exact w1) (by rw [← hr2]; exact w2) (zf_trans y2 w3))
      rw [List.length_append, List.length_singleton, ← Nat.add_assoc] at this
      exact this
    refine r_BlockReader_lengthen_13 l d b ro _ _ _ _ gb.k g.1 g.2.1 (by omega) g.2.2.1 gb.sh.1 (by omega) gb.sh.2 ⟨fun c => ?_, fun _ => ⟨fun c => ⟨fun c2 => ?_, fun c2 => ⟨i, rfl, by omega, fun c3 => ?_, fun c3 => ?_⟩⟩, fun c => ⟨i, rfl, by omega, ?_⟩⟩⟩
    · rw [as.1, nI_leI (by omega) (by omega)] at c
      omega
    · rw [show (4 : Int32) = nI 4 from rfl, nI_eq (by omega) (by omega)] at c
      rw [show (0 : Int32) = nI 0 from rfl, nI_leI (by omega) (by omega)] at c2
      exact r_BlockReader_lengthen_66 l d b ro _ _ _ _ _ (one 1 c (by rw [if_neg (by omega)]))
    · rw [show (4 : Int32) = nI 4 from rfl, nI_eq (by omega) (by omega)] at c
      rw [es, nI_eq (by omega) (by omega)] at c3
      exact r_BlockReader_lengthen_66 l d b ro _ _ _ _ _ (one 1 c (by rw [if_neg (fun z => c3 z.2)]))
    · rw [show (4 : Int32) = nI 4 from rfl, nI_eq (by omega) (by omega)] at c
      rw [show (0 : Int32) = nI 0 from rfl, nI_leI (by omega) (by omega)] at c2
      rw [es, nI_eq (by omega) (by omega)] at c3
      rw [nI_1]
      exact one (run + 1) c (by rw [if_pos ⟨by omega, c3⟩])
    · rw [show (4 : Int32) = nI 4 from rfl, nI_eq (by omega) (by omega)] at c
      rw [if_pos c] at q
      refine r_BlockReader_lengthen_77 l d b ro _ _ _ _ _ ?_
      rw [es, nI_add]
      refine t_le85 (L := fs ++ out) (N := N) (many := f i) (v := v) l d g (by omega) hv (f i) 0 I (by omega) (by rw [List.replicate_zero, List.append_nil]; exact ar) (fun I2 y1 y2 => ?_)
      rw [nI_1]
      have hiv2 : le_iv (i + 1) 0 (out ++ List.replicate (f i) v).length := by
        rw [List.length_append, List.length_replicate]
        rw [c] at hiv
        exact le_iv_4 hiv hfi
      have y3 : a_Row I2 ro N ((fs ++ (out ++ List.replicate (f i) v)).take N) := by
        rw [← List.append_assoc]
        exact y1
      have := ih (i + 1) 0 v (out ++ List.replicate (f i) v) I2 (by omega) (as.keep y2 (by simp; omega) (by simp; omega)) y3 hiv2 hv (fun r I3 w1 w2 w3 => q r I3 w1 w2 (zf_trans y2 w3))
      rw [List.length_append, List.length_replicate, ← Nat.add_assoc] at this
      exact this
theorem c_lengthen (l : Launch) (d : Nat) {I : zi_I} (gb : g_Block K RJ b) (g : g_Row K RJ ro N) (hd : ro + 1 < b) (hn : n ≤ 64) (hN : N ≤ 2000) (hf : ∀ i, i < n → f i < 256) (as : a_Sh I b n f) (ar : a_Row I ro N fs) :
    zi_C l (zx_rm (d + 1) 0 0) M_BlockReader_lengthen [.ref b, .ref ro] K RJ I (fun r I2 => r = some (.int (if (le_go f n 0 0 0 []).2 = 4 then -13 else if fs.length + (le_go f n 0 0 0 []).1.length ≤ N then 0 else 1)) ∧ a_Row I2 ro N ((fs ++ (le_go f n 0 0 0 []).1).take N) ∧ zf [ro, ro + 1] I I2) := by
  refine zi_of (by decide) (fun α => Nat.le_of_ble_eq_true rfl) (r_BlockReader_lengthen_0 l d b ro g.1 ?_)
  rw [ar.2.1]
  exact t_le13 (n := n) (f := f) (fs := fs) (N := N) l d gb g hd hn hN hf ar.1 n 0 0 0 [] I (by omega) as (by rw [List.append_nil, List.take_of_length_le ar.1]; exact ar) ⟨by omega, 0, by omega, by simp⟩ (by decide) (fun r I2 y1 y2 y3 => ⟨y2, y1, y3⟩)
theorem t_ml24 (l : Launch) (d : Nat) {Q : zi_Q} {x1 : Int32} {i v : Nat} {L : List Nat} (g : g_Mod K RJ m) (hi1 : 1 ≤ i) (hi : i < 64) (hfi : f i < 256) (hv : v < 256) (hL : L.length + f i ≤ 3600) :
    ∀ (j k : Nat) (I : zi_I), k + j = f i → I (m + 5) i = nI (f i) → I (m + 5) (i - 1) = nI v → aL I m 12 (m + 4) (L ++ List.replicate k v) →
      (∀ I2, aL I2 m 12 (m + 4) (L ++ List.replicate (f i) v) → zg m [12] [m + 4] I I2 → zi_X l (zx_rm d 0 0) M_Mod_lengthen K RJ Q 9 [(0, .ref m), (1, .int 0), (2, .int (nI i + 1))] [] I2) →
      zi_X l (zx_rm d 0 0) M_Mod_lengthen K RJ Q 24 [(0, .ref m), (1, .int x1), (2, .int (nI i)), (3, .int (nI k))] [] I := by
  intro j
  induction j with
  | zero =>
    intro k I hk e1 e2 a q
    obtain rfl : k = f i := by omega
    refine r_Mod_lengthen_24 l d m _ _ _ g.1 g.shortRowR (by omega) g.shortRowK g.plainR (by omega) g.plainK ⟨i, rfl, by omega, fun _ => q I a zg_refl, fun c => ?_⟩
    rw [e1] at c
    exact absurd (nI_le (Nat.le_refl _) (by omega)) c
  | succ j ih =>
    intro k I hk e1 e2 a q
    have el : (L ++ List.replicate k v).length = L.length + k := by rw [List.length_append, List.length_replicate]
    refine r_Mod_lengthen_24 l d m _ _ _ g.1 g.shortRowR (by omega) g.shortRowK g.plainR (by omega) g.plainK ⟨i, rfl, by omega, fun c => ?_, fun _ => ⟨i - 1, ?_, by omega, L.length + k, by rw [a.1, el], by omega, ?_⟩⟩
    · rw [e1, nI_leI (by omega) (by omega)] at c
      omega
    · rw [show (1 : Int32) = nI 1 from rfl, pk_sub (by omega)]
    · rw [e2, a.1, el, nI_1, nI_1]
      have a2 := aL_add (v := v) a (by omega)
      rw [el, List.append_assoc, ← List.replicate_succ'] at a2
      have z : zg m [12] [m + 4] I (zx_u2 (zx_u2 I (m + 4) (L.length + k) (nI v)) m 12 (nI (L.length + k + 1))) := zg_trans (zg_arr (by simp) (by omega)) (zg_fld (by simp))
      exact ih (k + 1) _ (by omega) (by rw [zg_cell z (by omega) (by simp)]; exact e1) (by rw [zg_cell z (by omega) (by simp)]; exact e2) a2 (fun I3 y1 y2 => q I3 y1 (zg_trans z y2))
theorem t_ml9 (l : Launch) (d : Nat) {Q : zi_Q} (g : g_Mod K RJ m) (hn : n ≤ 64) (hf : ∀ i, i < n → f i < 256) :
    ∀ (j i run v : Nat) (out : List Nat) (I : zi_I), i + j = n → a_MSh I m n f → aL I m 12 (m + 4) out → le_iv i run out.length → (0 < run → 1 ≤ i ∧ v = f (i - 1)) → v < 256 →
      (∀ r I2, aL I2 m 12 (m + 4) (le_go f j i run v out).1 → r = some (.int (if (le_go f j i run v out).2 = 4 then 0 else 1)) → zg m [12] [m + 4] I I2 → Q r I2) →
      zi_X l (zx_rm d 0 0) M_Mod_lengthen K RJ Q 9 [(0, .ref m), (1, .int (nI run)), (2, .int (nI i))] [] I := by
  intro j
  induction j with
  | zero =>
    intro i run v out I hi as a hiv hp hv q
    obtain rfl : i = n := by omega
    have hr4 := hiv.1
    refine r_Mod_lengthen_9 l d m _ _ g.1 g.plainR (by omega) g.shortRowR (by omega) g.shortRowK g.plainK ⟨fun _ => ⟨fun c => ?_, fun c => ?_⟩, fun c => ?_⟩
    · rw [show (4 : Int32) = nI 4 from rfl, nI_leI (by omega) (by omega)] at c
      refine q _ I a ?_ zg_refl
      show _ = some (Value.int (if run = 4 then 0 else 1))
      rw [if_pos (by omega)]
    · rw [show (4 : Int32) = nI 4 from rfl, nI_leI (by omega) (by omega)] at c
      refine q _ I a ?_ zg_refl
      show _ = some (Value.int (if run = 4 then 0 else 1))
      rw [if_neg (by omega)]
    · rw [as.1, nI_leI (by omega) (by omega)] at c
      omega
  | succ j ih =>
    intro i run v out I hi as a hiv hp hv q
    have hr4 := hiv.1
    have hfi := hf i (by omega)
    have es : I (m + 5) i = nI (f i) := as.2 i (by omega)
    have hbd := le_iv_bd hiv (by omega)
    rw [le_s] at q
    have z : zg m [12] [m + 4] I (zx_u2 (zx_u2 I (m + 4) out.length (nI (f i))) m 12 (nI (out.length + 1))) := zg_trans (zg_arr (by simp) (by omega)) (zg_fld (by simp))
    have one : ∀ run2, ¬ run = 4 → run2 = (if 0 < run ∧ f i = v then run + 1 else 1) → zi_X l (zx_rm d 0 0) M_Mod_lengthen K RJ Q 9 [(0, .ref m), (1, .int (nI run2)), (2, .int (nI i + 1))] [] (zx_u2 (zx_u2 I (m + 4) out.length (I (m + 5) i)) m 12 (I m 12 + 1)) := fun run2 hne hr2 => by
      rw [if_neg hne] at q
      rw [es, a.1, nI_1, nI_1]
      refine ih (i + 1) run2 (f i) (out ++ [f i]) _ (by omega) (as.keep z (by simp) (by simp)) (aL_add a (by omega)) (by
        rw [List.length_append, List.length_singleton, hr2]
        exact le_iv_1 hiv hne) (fun _ => ⟨by omega, by rw [Nat.add_sub_cancel]⟩) hfi (fun r I3 w1 w2 w3 => q r I3 (by rw [← hr2]; exact w1) (by rw [← hr2]; exact w2) (zg_trans z w3))
    refine r_Mod_lengthen_9 l d m _ _ g.1 g.plainR (by omega) g.shortRowR (by omega) g.shortRowK g.plainK ⟨fun c => ?_, fun _ => ⟨fun c => ⟨fun c2 => ⟨i, rfl, by omega, out.length, a.1, by omega, ?_⟩, fun c2 => ?_⟩, fun c => ?_⟩⟩
    · rw [as.1, nI_leI (by omega) (by omega)] at c
      omega
    · rw [show (4 : Int32) = nI 4 from rfl, nI_eq (by omega) (by omega)] at c
      rw [show (0 : Int32) = nI 0 from rfl, nI_leI (by omega) (by omega)] at c2
      exact one 1 c (by rw [if_neg (by omega)])
    · rw [show (4 : Int32) = nI 4 from rfl, nI_eq (by omega) (by omega)] at c
      rw [show (0 : Int32) = nI 0 from rfl, nI_leI (by omega) (by omega)] at c2
      obtain ⟨p1, p2⟩ := hp (by omega)
      have ep : I (m + 5) (i - 1) = nI v := by rw [as.2 _ (by omega), ← p2]
      refine ⟨i, rfl, by omega, i - 1, by rw [show (1 : Int32) = nI 1 from rfl, pk_sub (by omega)], by omega, fun c3 => ⟨i, rfl, by omega, out.length, a.1, by omega, ?_⟩, fun c3 => ⟨i, rfl, by omega, out.length, a.1, by omega, ?_⟩⟩
      · rw [es, ep, nI_eq (by omega) (by omega)] at c3
        exact one 1 c (by rw [if_neg (fun z => c3 z.2)])
      · rw [es, ep, nI_eq (by omega) (by omega)] at c3
        have h := one (run + 1) c (by rw [if_pos ⟨by omega, c3⟩])
        rw [← nI_1] at h
        exact h
    · rw [show (4 : Int32) = nI 4 from rfl, nI_eq (by omega) (by omega)] at c
      rw [if_pos c] at q
      obtain ⟨p1, p2⟩ := hp (by omega)
      have ep : I (m + 5) (i - 1) = nI v := by rw [as.2 _ (by omega), ← p2]
      refine t_ml24 (f := f) (L := out) (v := v) l d g p1 (by omega) hfi hv (by omega) (f i) 0 I (by omega) es ep (by rw [List.replicate_zero, List.append_nil]; exact a) (fun I2 y1 y2 => ?_)
      rw [nI_1]
      exact ih (i + 1) 0 v (out ++ List.replicate (f i) v) I2 (by omega) (as.keep y2 (by simp) (by simp)) y1 (by
        rw [List.length_append, List.length_replicate]
        rw [c] at hiv
        exact le_iv_4 hiv hfi) (fun h => absurd h (by omega)) hv (fun r I3 w1 w2 w3 => q r I3 w1 w2 (zg_trans y2 w3))
theorem c_mlengthen (l : Launch) (d : Nat) {I : zi_I} (g : g_Mod K RJ m) (hn : n ≤ 64) (hf : ∀ i, i < n → f i < 256) (as : a_MSh I m n f) :
    zi_C l (zx_rm d 0 0) M_Mod_lengthen [.ref m] K RJ I (fun r I2 => r = some (.int (if (le_go f n 0 0 0 []).2 = 4 then 0 else 1)) ∧ aL I2 m 12 (m + 4) (le_go f n 0 0 0 []).1 ∧ zg m [12] [m + 4] I I2) := by
  have z : zg m [12] [m + 4] I (zx_u2 I m 12 0) := zg_fld (by simp)
  exact zi_of (by decide) (fun α => Nat.le_of_ble_eq_true rfl) (r_Mod_lengthen_0 l d m g.1 (t_ml9 (n := n) (f := f) l d g hn hf n 0 0 0 [] _ (by omega) (as.keep z (by simp) (by simp)) ⟨by rw [zx_u2_s]; rfl, fun i hi => absurd hi (Nat.not_lt_zero _)⟩ ⟨by omega, 0, by omega, by simp⟩ (fun h => absurd h (by omega)) (by decide) (fun r I2 y1 y2 y3 => ⟨y2, y1, zg_trans z y3⟩)))
end LE
