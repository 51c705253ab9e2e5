/-! The reference picks tables. -/
section MK
variable {K : zx_Kt} {RJ : zx_RJ} {m y ks G T : Nat} {sy : Nat → Nat}
def a_MS (I : zi_I) (m y : Nat) (sy : Nat → Nat) : Prop := I m 17 = nI y ∧ ∀ k, k < y → I (m + 7) k = nI (sy k)
def a_MP (I : zi_I) (m G : Nat) (pk : Nat → Nat) : Prop := I m 28 = nI G ∧ ∀ g, g < G → I (m + 12) g = nI (pk g)
theorem a_MS.keep {I I2 : zi_I} {F S : List Nat} (a : a_MS I m y sy) (h : zg m F S I I2) (h1 : 17 ∉ F) (h2 : m + 7 ∉ S) : a_MS I2 m y sy := ⟨by rw [h.1 17 h1]; exact a.1, fun k hk => by rw [zg_cell h (by omega) h2]; exact a.2 k hk⟩
theorem a_MP.keep {I I2 : zi_I} {F S : List Nat} {pk : Nat → Nat} (a : a_MP I m G pk) (h : zg m F S I I2) (h1 : 28 ∉ F) (h2 : m + 12 ∉ S) : a_MP I2 m G pk := ⟨by rw [h.1 28 h1]; exact a.1, fun k hk => by rw [zg_cell h (by omega) h2]; exact a.2 k hk⟩
theorem t_mco (l : Launch) (d : Nat) {I : zi_I} {t gr : Nat} {f : Nat → Nat} {Q : zi_Q} (g : g_Mod K RJ m) (ht : t < 4) (hgr : gr < 2 ^ 20) (hy : y ≤ 80) (hk : ks ≤ 256) (hs : ∀ k, k < y → sy k < ks + 2) (a1 : a_MS I m y sy) (hf : a_Tb I m t (ks + 2) f) (q : Q (some (.int (nI (pc_cost f sy y gr)))) I) :
    ∀ j i, i + j = min y (8 * gr + 8) - 8 * gr → zi_X l (zx_rm d 0 0) M_Mod_costOf K RJ Q 8 [(0, .ref m), (1, .int (nI gr)), (2, .int (nI t)), (3, .int (nI (pc_c f sy (8 * gr) i))), (4, .int (nI (8 * gr + i)))] [] I := by
  intro j
  have e8 : (8 : Int32) * nI gr + 8 = nI (8 * gr + 8) := by rw [show (8 : Int32) = nI 8 from rfl, pk_mul, nI_add]
  induction j with
  | zero =>
    intro i hi
    obtain rfl : i = min y (8 * gr + 8) - 8 * gr := by omega
    refine r_Mod_costOf_8 l d m _ _ _ _ g.1 g.lengthsR (by omega) g.symbolsR (by omega) g.symbolsK g.lengthsK ⟨fun _ => q, fun c => ⟨fun _ => q, fun c2 => ?_⟩⟩
    rw [e8, nI_leI (by omega) (by omega)] at c
    rw [a1.1, nI_leI (by omega) (by omega)] at c2
    omega
  | succ j ih =>
    intro i hi
    have hk2 : 8 * gr + i < y := by omega
    have hsk := hs _ hk2
    refine r_Mod_costOf_8 l d m _ _ _ _ g.1 g.lengthsR (by omega) g.symbolsR (by omega) g.symbolsK g.lengthsK ⟨fun c => ?_, fun _ => ⟨fun c => ?_, fun _ => ⟨8 * gr + i, rfl, by omega, 260 * t + sy (8 * gr + i), ?_, by omega, ?_⟩⟩⟩
    · rw [e8, nI_leI (by omega) (by omega)] at c
      omega
    · rw [a1.1, nI_leI (by omega) (by omega)] at c
      omega
    · rw [a1.2 _ hk2, show (260 : Int32) = nI 260 from rfl, pk_mul, nI_add]
    · rw [hf _ hsk, nI_add, nI_1]
      exact ih (i + 1) (by omega)
theorem c_mcost (l : Launch) (d : Nat) {I : zi_I} {t gr : Nat} {f : Nat → Nat} (g : g_Mod K RJ m) (ht : t < 4) (hgr : gr < 2 ^ 20) (hy : y ≤ 80) (hk : ks ≤ 256) (hs : ∀ k, k < y → sy k < ks + 2) (a1 : a_MS I m y sy) (hf : a_Tb I m t (ks + 2) f) :
    zi_C l (zx_rm d 0 0) M_Mod_costOf [.ref m, .int (nI gr), .int (nI t)] K RJ I (fun r I2 => r = some (.int (nI (pc_cost f sy y gr))) ∧ I2 = I) := by
  refine zi_of (by decide) (fun α => Nat.le_of_ble_eq_true rfl) (r_Mod_costOf_0 l d m _ _ ?_)
  rw [show (8 : Int32) * nI gr = nI (8 * gr) by rw [show (8 : Int32) = nI 8 from rfl, pk_mul]]
  exact t_mco (y := y) (ks := ks) (sy := sy) (t := t) (gr := gr) (f := f) (Q := fun r I2 => r = some (.int (nI (pc_cost f sy y gr))) ∧ I2 = I) l d g ht hgr hy hk hs a1 hf ⟨rfl, rfl⟩ _ 0 (Nat.zero_add _)
theorem t_mp33 (l : Launch) (d : Nat) {Q : zi_Q} (g : g_Mod K RJ m) (hG : G ≤ 63) (hT : 0 < T) (hT4 : T ≤ 4) :
    ∀ (j i : Nat) (I : zi_I), i + j = G → I m 28 = nI G → I m 25 = nI T → (∀ k, k < i → I (m + 12) k = nI (k % T)) →
      (∀ I2, (∀ k, k < G → I2 (m + 12) k = nI (k % T)) → zf [m + 12] I I2 → zi_X l (zx_rm (d + 1) 0 0) M_Mod_pick K RJ Q 61 [(0, .ref m), (1, .int 0)] [] I2) →
      zi_X l (zx_rm (d + 1) 0 0) M_Mod_pick K RJ Q 33 [(0, .ref m), (1, .int (nI i))] [] I := by
  intro j
  induction j with
  | zero =>
    intro i I hg h11 h9 hp q
    obtain rfl : i = G := by omega
    refine r_Mod_pick_33 l d m _ g.1 g.picksR (by omega) g.picksK ⟨fun _ => q I hp zf_refl, fun c => ?_⟩
    rw [h11, nI_leI (by omega) (by omega)] at c
    omega
  | succ j ih =>
    intro i I hg h11 h9 hp q
    refine r_Mod_pick_33 l d m _ g.1 g.picksR (by omega) g.picksK ⟨fun c => ?_, fun _ => ⟨fun c => ?_, i, rfl, by omega, ?_⟩⟩
    · rw [h11, nI_leI (by omega) (by omega)] at c
      omega
    · rw [h9, show (0 : Int32) = nI 0 from rfl, nI_eq (by omega) (by omega)] at c
      omega
    · have em : nI i - nI i / I m 25 * I m 25 = nI (i % T) := by
        rw [h9]
        exact pk_rem (d := T) (by omega) (by omega) (by omega)
      rw [em, nI_1]
      have z : zf [m + 12] I (zx_u2 I (m + 12) i (nI (i % T))) := zf_u2 (by simp)
      refine ih (i + 1) _ (by omega) (by rw [zf_at z (by simp)]; exact h11) (by rw [zf_at z (by simp)]; exact h9) (fun k hk => ?_) (fun I3 y1 y2 => q I3 y1 (zf_trans z y2))
      by_cases e : k = i
      · rw [e, zx_u2_s]
      · rw [zx_u2_k e]
        exact hp k (by omega)
theorem t_mp78 (l : Launch) (d : Nat) {Q : zi_Q} {x1 x2 : Int32} (g : g_Mod K RJ m) (hk : ks ≤ 256) :
    ∀ (j s : Nat) (I : zi_I), s + j = ks + 2 → I m 22 = nI ks → (∀ i, i < s → I (m + 15) i = nI 0) →
      (∀ I2, (∀ i, i < ks + 2 → I2 (m + 15) i = nI 0) → zf [m + 15] I I2 → zi_X l (zx_rm (d + 1) 0 0) M_Mod_pick K RJ Q 103 [(0, .ref m), (1, .int x1), (2, .int x2), (3, .int 0)] [] I2) →
      zi_X l (zx_rm (d + 1) 0 0) M_Mod_pick K RJ Q 78 [(0, .ref m), (1, .int x1), (2, .int x2), (3, .int (nI s))] [] I := by
  intro j
  induction j with
  | zero =>
    intro s I hs h22 hw q
    obtain rfl : s = ks + 2 := by omega
    refine r_Mod_pick_78 l d m _ _ _ g.1 g.weightsR (by omega) g.weightsK ⟨fun _ => q I hw zf_refl, fun c => ?_⟩
    rw [h22, show (2 : Int32) = nI 2 from rfl, nI_add, nI_leI (by omega) (by omega)] at c
    omega
  | succ j ih =>
    intro s I hs h22 hw q
    refine r_Mod_pick_78 l d m _ _ _ g.1 g.weightsR (by omega) g.weightsK ⟨fun c => ?_, fun _ => ⟨s, rfl, by omega, ?_⟩⟩
    · rw [h22, show (2 : Int32) = nI 2 from rfl, nI_add, nI_leI (by omega) (by omega)] at c
      omega
    · rw [nI_1]
      have z : zf [m + 15] I (zx_u2 I (m + 15) s 0) := zf_u2 (by simp)
      refine ih (s + 1) _ (by omega) (by rw [zf_at z (by simp)]; exact h22) (fun i hi => ?_) (fun I3 y1 y2 => q I3 y1 (zf_trans z y2))
      by_cases e : i = s
      · rw [e, zx_u2_s]
        rfl
      · rw [zx_u2_k e]
        exact hw i (by omega)
theorem t_mp103 (l : Launch) (d : Nat) {Q : zi_Q} {x1 : Int32} {t : Nat} {pk : Nat → Nat} (g : g_Mod K RJ m) (hk : ks ≤ 256) (hy : y ≤ 80) (hs : ∀ k, k < y → sy k < ks + 2) (hG : G ≤ 63) (hyG : y ≤ 8 * G) (hp : ∀ g, g < G → pk g < 2 ^ 20) (ht : t < 2 ^ 20) :
    ∀ (j k : Nat) (I : zi_I), k + j = y → a_MS I m y sy → a_MP I m G pk → (∀ s, s < ks + 2 → I (m + 15) s = nI (pc_n sy pk t s k)) →
      (∀ I2, (∀ s, s < ks + 2 → I2 (m + 15) s = nI (pc_n sy pk t s y)) → zg m [] [m + 15] I I2 → zi_X l (zx_rm (d + 1) 0 0) M_Mod_pick K RJ Q 151 [(0, .ref m), (1, .int x1), (2, .int (nI t)), (3, .int 0)] [] I2) →
      zi_X l (zx_rm (d + 1) 0 0) M_Mod_pick K RJ Q 103 [(0, .ref m), (1, .int x1), (2, .int (nI t)), (3, .int (nI k))] [] I := by
  intro j
  induction j with
  | zero =>
    intro k I hkj a1 a2 hw q
    obtain rfl : k = y := by omega
    refine r_Mod_pick_103 l d m _ _ _ g.1 g.weightsR (by omega) g.symbolsR (by omega) g.symbolsK g.weightsK g.picksR (by omega) g.picksK ⟨fun _ => q I hw zg_refl, fun c => ?_⟩
    rw [a1.1, nI_leI (by omega) (by omega)] at c
    omega
  | succ j ih =>
    intro k I hkj a1 a2 hw q
    have hs1 := hs k (by omega)
    have hp1 := hp (k / 8) (by omega)
    have e8 : nI k / 8 = nI (k / 8) := pk_div (d := 8) (by omega) (by omega) (by omega)
    refine r_Mod_pick_103 l d m _ _ _ g.1 g.weightsR (by omega) g.symbolsR (by omega) g.symbolsK g.weightsK g.picksR (by omega) g.picksK ⟨fun c => ?_, fun _ => ⟨k, rfl, by omega, sy k, a1.2 k (by omega), by omega, k / 8, e8, by omega, fun c => ⟨sy k, a1.2 k (by omega), by omega, ?_⟩, fun c => ⟨sy k, a1.2 k (by omega), by omega, ?_⟩⟩⟩
    · rw [a1.1, nI_leI (by omega) (by omega)] at c
      omega
    · rw [a2.2 _ (by omega), nI_eq (by omega) (by omega)] at c
      have e0 : I (m + 15) (sy k) + 0 = I (m + 15) (sy k) := Int32.add_zero _
      rw [nI_1, e0, zx_u2_self rfl]
      refine ih (k + 1) I (by omega) a1 a2 (fun s h => ?_) q
      rw [hw s h]
      show _ = nI (pc_n sy pk t s k + (if pk (k / 8) = t ∧ sy k = s then 1 else 0))
      rw [if_neg (fun z => c z.1)]
      rfl
    · rw [a2.2 _ (by omega), nI_eq (by omega) (by omega)] at c
      rw [nI_1, hw _ hs1, nI_1]
      have z : zg m [] [m + 15] I (zx_u2 I (m + 15) (sy k) (nI (pc_n sy pk t (sy k) k + 1))) := zg_arr (by simp) (by omega)
      refine ih (k + 1) _ (by omega) (a1.keep z (by simp) (by simp)) (a2.keep z (by simp) (by simp)) (fun s h => ?_) (fun I3 y1 y2 => q I3 y1 (zg_trans z y2))
      show _ = nI (pc_n sy pk t s k + (if pk (k / 8) = t ∧ sy k = s then 1 else 0))
      by_cases e : s = sy k
      · rw [e, zx_u2_s, if_pos ⟨c, rfl⟩]
      · rw [zx_u2_k e, if_neg (fun z => e z.2.symm), hw s h]
        rfl
theorem t_mp151 (l : Launch) (d : Nat) {Q : zi_Q} {x1 : Int32} {t : Nat} {f : Nat → Nat} (g : g_Mod K RJ m) (hk : ks ≤ 256) (ht : t < 4) (hf : ∀ s, s < ks + 2 → f s < 2 ^ 20) (hS : hf_f (fun s => if f s = 0 then 1 else f s) (fun _ => 0) (ks + 2) < 2 ^ 20) :
    ∀ (j s : Nat) (I : zi_I), s + j = ks + 2 → I m 22 = nI ks → (∀ i, i < ks + 2 → I (m + 15) i = nI (if i < s then (if f i = 0 then 1 else f i) else f i)) →
      (∀ I2, (∀ i, I2 (m + 10) i = if 260 * t ≤ i ∧ i < 260 * t + (ks + 2) then nI (hf_len (ks + 2) (fun s => if f s = 0 then 1 else f s) (i - 260 * t)) else I (m + 10) i) → zg m [] [m + 10, m + 15, m + 16] I I2 → zi_X l (zx_rm (d + 2) 0 0) M_Mod_pick K RJ Q 68 [(0, .ref m), (1, .int x1), (2, .int (nI t + 1))] [] I2) →
      zi_X l (zx_rm (d + 2) 0 0) M_Mod_pick K RJ Q 151 [(0, .ref m), (1, .int x1), (2, .int (nI t)), (3, .int (nI s))] [] I := by
  intro j
  induction j with
  | zero =>
    intro s I hs h22 hw q
    obtain rfl : s = ks + 2 := by omega
    refine r_Mod_pick_151 l (d + 1) m _ _ _ g.1 g.weightsR (by omega) g.weightsK ⟨fun _ => zi_mono (c_makeLengths (w0 := fun s => if f s = 0 then 1 else f s) l d g ht hk h22 (fun k hk => by rw [hw k hk, if_pos hk]) rfl hS) ?_, fun c => ?_⟩
    · rintro r I2 ⟨rfl, v1, v2⟩
      exact ⟨rfl, q I2 v1 v2⟩
    · rw [h22, show (2 : Int32) = nI 2 from rfl, nI_add, nI_leI (by omega) (by omega)] at c
      omega
  | succ j ih =>
    intro s I hs h22 hw q
    have hfs := hf s (by omega)
    have ews : I (m + 15) s = nI (f s) := by rw [hw s (by omega), if_neg (by omega)]
    refine r_Mod_pick_151 l (d + 1) m _ _ _ g.1 g.weightsR (by omega) g.weightsK ⟨fun c => ?_, fun _ => ⟨s, rfl, by omega, fun c => ⟨s, rfl, by omega, s, rfl, by omega, ?_⟩, fun c => ⟨s, rfl, by omega, ?_⟩⟩⟩
    · rw [h22, show (2 : Int32) = nI 2 from rfl, nI_add, nI_leI (by omega) (by omega)] at c
      omega
    · rw [ews, show (0 : Int32) = nI 0 from rfl, nI_eq (by omega) (by omega)] at c
      rw [nI_1, zx_u2_self rfl]
      refine ih (s + 1) I (by omega) h22 (fun i hi => ?_) q
      rw [hw i hi]
      by_cases e : i = s
      · rw [e, if_neg (show ¬ s < s by omega), if_pos (show s < s + 1 by omega), if_neg c]
      · by_cases h : i < s
        · rw [if_pos h, if_pos (show i < s + 1 by omega)]
        · rw [if_neg h, if_neg (show ¬ i < s + 1 by omega)]
    · rw [ews, show (0 : Int32) = nI 0 from rfl, nI_eq (by omega) (by omega)] at c
      rw [nI_1]
      have z : zg m [] [m + 10, m + 15, m + 16] I (zx_u2 I (m + 15) s 1) := zg_arr (by simp) (by omega)
      refine ih (s + 1) _ (by omega) (by rw [z.1 22 (by simp)]; exact h22) (fun i hi => ?_) (fun I2 y1 y2 => q I2 (fun i => by rw [y1 i, zx_u2_ne (by omega)]) (zg_trans z y2))
      by_cases e : i = s
      · rw [e, zx_u2_s, if_pos (show s < s + 1 by omega), if_pos c]
        rfl
      · rw [zx_u2_k e, hw i hi]
        by_cases h : i < s
        · rw [if_pos h, if_pos (show i < s + 1 by omega)]
        · rw [if_neg h, if_neg (show ¬ i < s + 1 by omega)]
theorem t_mp68 (l : Launch) (d : Nat) {Q : zi_Q} {r : Nat} {x1 : Int32} (g : g_Mod K RJ m) (hk : ks ≤ 64) (hy : y ≤ 65) (hs : ∀ k, k < y → sy k < ks + 2) (hG : G ≤ 63) (hyG : y ≤ 8 * G) (hT : 0 < T) (hT4 : T ≤ 4) :
    ∀ (j t : Nat) (I : zi_I), t + j = T → a_MS I m y sy → I m 22 = nI ks → I m 25 = nI T → a_MP I m G (pc_pk sy y (ks + 2) T r) → (∀ t', t' < t → a_Tb I m t' (ks + 2) (pc_ln sy y (ks + 2) T r t')) →
      (∀ I2, (∀ t', t' < T → a_Tb I2 m t' (ks + 2) (pc_ln sy y (ks + 2) T r t')) → zg m [] [m + 10, m + 15, m + 16] I I2 → zi_X l (zx_rm (d + 2) 0 0) M_Mod_pick K RJ Q 205 [(0, .ref m), (1, .int x1), (2, .int 0)] [] I2) →
      zi_X l (zx_rm (d + 2) 0 0) M_Mod_pick K RJ Q 68 [(0, .ref m), (1, .int x1), (2, .int (nI t))] [] I := by
  intro j
  induction j with
  | zero =>
    intro t I ht a1 h22 h25 a2 hl q
    obtain rfl : t = T := by omega
    refine r_Mod_pick_68 l (d + 1) m _ _ g.1 ⟨fun _ => q I hl zg_refl, fun c => ?_⟩
    rw [h25, nI_leI (by omega) (by omega)] at c
    omega
  | succ j ih =>
    intro t I ht a1 h22 h25 a2 hl q
    refine r_Mod_pick_68 l (d + 1) m _ _ g.1 ⟨fun c => ?_, fun _ => ?_⟩
    · rw [h25, nI_leI (by omega) (by omega)] at c
      omega
    · refine t_mp78 (ks := ks) l (d + 1) g (by omega) (ks + 2) 0 I (by omega) h22 (fun _ h => absurd h (by omega)) (fun I2 w1 w2 => ?_)
      have z2 : zg m [] [m + 10, m + 15, m + 16] I I2 := ⟨fun j _ => zf_at w2 (by simp) j, zf_mono w2 (by simp)⟩
      have pl := fun gg => pc_pk_lt (sy := sy) (y := y) (n := ks + 2) hT r gg
      refine t_mp103 (pk := pc_pk sy y (ks + 2) T r) (sy := sy) (y := y) (G := G) (ks := ks) (t := t) l (d + 1) g (by omega) (by omega) hs hG hyG (fun gg _ => by have := pl gg; omega) (by omega) y 0 I2 (by omega) (a1.keep z2 (by simp) (by simp)) (a2.keep z2 (by simp) (by simp)) (fun s h => w1 s h) (fun I3 v1 v2 => ?_)
      have z3 : zg m [] [m + 10, m + 15, m + 16] I I3 := zg_trans z2 (zg_mono v2 (by simp) (by simp))
      refine t_mp151 (f := fun s => pc_n sy (pc_pk sy y (ks + 2) T r) t s y) (ks := ks) (t := t) l d g (by omega) (by omega) (fun s _ => by have := pc_n_le sy (pc_pk sy y (ks + 2) T r) t s y; show pc_n sy (pc_pk sy y (ks + 2) T r) t s y < 2 ^ 20; omega) (Nat.lt_of_le_of_lt (pc_w_sum sy (pc_pk sy y (ks + 2) T r) y t (ks + 2)) (by omega)) (ks + 2) 0 I3 (by omega) (by rw [z3.1 22 (by simp)]; exact h22) (fun i hi => by rw [v1 i hi, if_neg (by omega)]) (fun I4 u1 u2 => ?_)
      rw [nI_1]
      have z4 : zg m [] [m + 10, m + 15, m + 16] I I4 := zg_trans z3 u2
      refine ih (t + 1) I4 (by omega) (a1.keep z4 (by simp) (by simp)) (by rw [z4.1 22 (by simp)]; exact h22) (by rw [z4.1 25 (by simp)]; exact h25) (a2.keep z4 (by simp) (by simp)) (fun t' ht' s hs' => ?_) (fun I5 y1 y2 => q I5 y1 (zg_trans z4 y2))
      rw [u1]
      by_cases e : t' = t
      · rw [e, if_pos (by omega), Nat.add_sub_cancel_left]
        rfl
      · rw [if_neg (by omega), zg_cell v2 (by omega) (by simp), zf_at w2 (by simp)]
        exact hl t' (by omega) s hs'
theorem t_mp222 (l : Launch) (d : Nat) {Q : zi_Q} {x1 : Int32} {gr : Nat} {fs : Nat → Nat → Nat} (g : g_Mod K RJ m) (hk : ks ≤ 64) (hy : y ≤ 65) (hs : ∀ k, k < y → sy k < ks + 2) (hgr : gr < 63) (hT4 : T ≤ 4) (hfl : ∀ t, t < T → ∀ s, s < ks + 2 → fs t s ≤ 2 ^ 10) :
    ∀ (j t : Nat) (I : zi_I), t + j = T - 1 → a_MS I m y sy → I m 25 = nI T → (∀ t', t' < T → a_Tb I m t' (ks + 2) (fs t')) → I (m + 12) gr = nI (pc_best (fun t => pc_cost (fs t) sy y gr) t) →
      (∀ I2, I2 (m + 12) gr = nI (pc_best (fun t => pc_cost (fs t) sy y gr) (T - 1)) → (∀ i, i ≠ gr → I2 (m + 12) i = I (m + 12) i) → zg m [] [m + 12] I I2 → zi_X l (zx_rm (d + 1) 0 0) M_Mod_pick K RJ Q 205 [(0, .ref m), (1, .int x1), (2, .int (nI gr + 1))] [] I2) →
      zi_X l (zx_rm (d + 1) 0 0) M_Mod_pick K RJ Q 222 [(0, .ref m), (1, .int x1), (2, .int (nI gr)), (3, .int (nI (t + 1)))] [] I := by
  intro j
  induction j with
  | zero =>
    intro t I ht a1 h25 hl hb q
    obtain rfl : t = T - 1 := by omega
    refine r_Mod_pick_222 l d m _ _ _ g.1 g.picksR (by omega) g.picksK ⟨fun _ => q I hb (fun _ _ => rfl) zg_refl, fun c => ?_⟩
    rw [h25, nI_leI (by omega) (by omega)] at c
    omega
  | succ j ih =>
    intro t I ht a1 h25 hl hb q
    have hbl := pc_best_le (fun t => pc_cost (fs t) sy y gr) t
    have b1 := pc_cost_le (sy := sy) (y := y) (gr := gr) (f := fs (t + 1)) (B := 2 ^ 10) (fun k hk => hfl _ (by omega) _ (hs k hk))
    have b2 := pc_cost_le (sy := sy) (y := y) (gr := gr) (f := fs (pc_best (fun t => pc_cost (fs t) sy y gr) t)) (B := 2 ^ 10) (fun k hk => hfl _ (by omega) _ (hs k hk))
    have e : pc_best (fun t => pc_cost (fs t) sy y gr) (t + 1) = if pc_cost (fs (t + 1)) sy y gr < pc_cost (fs (pc_best (fun t => pc_cost (fs t) sy y gr) t)) sy y gr then t + 1 else pc_best (fun t => pc_cost (fs t) sy y gr) t := rfl
    refine r_Mod_pick_222 l d m _ _ _ g.1 g.picksR (by omega) g.picksK ⟨fun c => ?_, fun _ => zi_mono (c_mcost (y := y) (ks := ks) (sy := sy) (t := t + 1) (gr := gr) (f := fs (t + 1)) l d g (by omega) (by omega) (by omega) (by omega) hs a1 (hl _ (by omega))) ?_⟩
    · rw [h25, nI_leI (by omega) (by omega)] at c
      omega
    · rintro r I2 ⟨rfl, rfl⟩
      refine ⟨_, rfl, gr, rfl, by omega, ?_⟩
      rw [hb]
      refine zi_mono (c_mcost (y := y) (ks := ks) (sy := sy) (t := pc_best (fun t => pc_cost (fs t) sy y gr) t) (gr := gr) (f := fs (pc_best (fun t => pc_cost (fs t) sy y gr) t)) l d g (by omega) (by omega) (by omega) (by omega) hs a1 (hl _ (by omega))) ?_
      rintro r I3 ⟨rfl, rfl⟩
      refine ⟨_, rfl, fun c => ⟨gr, rfl, by omega, gr, rfl, by omega, ?_⟩, fun c => ⟨gr, rfl, by omega, ?_⟩⟩
      · rw [nI_leI (by omega) (by omega)] at c
        rw [if_neg (by omega)] at e
        rw [nI_1, zx_u2_self rfl]
        exact ih (t + 1) I3 (by omega) a1 h25 hl (by rw [e]; exact hb) q
      · rw [nI_leI (by omega) (by omega)] at c
        rw [if_pos (by omega)] at e
        rw [nI_1]
        have z : zg m [] [m + 12] I3 (zx_u2 I3 (m + 12) gr (nI (t + 1))) := zg_arr (by simp) (by omega)
        exact ih (t + 1) _ (by omega) (a1.keep z (by simp) (by simp)) (by rw [z.1 25 (by simp)]; exact h25) (fun t' ht' => (hl t' ht').keep z (by simp)) (by rw [e, zx_u2_s]) (fun I4 y1 y2 y3 => q I4 y1 (fun i hi => by rw [y2 i hi, zx_u2_k hi]) (zg_trans z y3))
theorem t_mp205 (l : Launch) (d : Nat) {Q : zi_Q} {r : Nat} {x1 : Int32} (g : g_Mod K RJ m) (hk : ks ≤ 64) (hy : y ≤ 65) (hs : ∀ k, k < y → sy k < ks + 2) (hG : G ≤ 63) (hT : 0 < T) (hT4 : T ≤ 4) :
    ∀ (j i : Nat) (I : zi_I), i + j = G → a_MS I m y sy → I m 28 = nI G → I m 25 = nI T → (∀ t', t' < T → a_Tb I m t' (ks + 2) (pc_ln sy y (ks + 2) T r t')) → (∀ k, k < i → I (m + 12) k = nI (pc_pk sy y (ks + 2) T (r + 1) k)) →
      (∀ I2, (∀ k, k < G → I2 (m + 12) k = nI (pc_pk sy y (ks + 2) T (r + 1) k)) → zg m [] [m + 12] I I2 → zi_X l (zx_rm (d + 1) 0 0) M_Mod_pick K RJ Q 61 [(0, .ref m), (1, .int (x1 + 1))] [] I2) →
      zi_X l (zx_rm (d + 1) 0 0) M_Mod_pick K RJ Q 205 [(0, .ref m), (1, .int x1), (2, .int (nI i))] [] I := by
  intro j
  induction j with
  | zero =>
    intro i I hi a1 h28 h25 hl hp q
    obtain rfl : i = G := by omega
    refine r_Mod_pick_205 l d m _ _ g.1 g.picksR (by omega) g.picksK ⟨fun _ => q I hp zg_refl, fun c => ?_⟩
    rw [h28, nI_leI (by omega) (by omega)] at c
    omega
  | succ j ih =>
    intro i I hi a1 h28 h25 hl hp q
    refine r_Mod_pick_205 l d m _ _ g.1 g.picksR (by omega) g.picksK ⟨fun c => ?_, fun _ => ⟨i, rfl, by omega, ?_⟩⟩
    · rw [h28, nI_leI (by omega) (by omega)] at c
      omega
    · have z : zg m [] [m + 12] I (zx_u2 I (m + 12) i 0) := zg_arr (by simp) (by omega)
      refine t_mp222 (fs := pc_ln sy y (ks + 2) T r) (gr := i) (sy := sy) (y := y) (ks := ks) (T := T) l d g hk hy hs (by omega) hT4 (fun t ht s hs' => ?_) (T - 1) 0 _ (by omega) (a1.keep z (by simp) (by simp)) (by rw [z.1 25 (by simp)]; exact h25) (fun t' ht' => (hl t' ht').keep z (by simp)) zx_u2_s (fun I2 w1 w2 w3 => ?_)
      · have := pc_ln_le (sy := sy) (y := y) (n := ks + 2) (T := T) (r := r) (t := t) (s := s) (by omega) (by omega) (by omega) hs'
        omega
      · rw [nI_1]
        have z2 := zg_trans z w3
        refine ih (i + 1) I2 (by omega) (a1.keep z2 (by simp) (by simp)) (by rw [z2.1 28 (by simp)]; exact h28) (by rw [z2.1 25 (by simp)]; exact h25) (fun t' ht' => (hl t' ht').keep z2 (by simp)) (fun k hk => ?_) (fun I3 y1 y2 => q I3 y1 (zg_trans z2 y2))
        by_cases e : k = i
        · rw [e, w1]
          rfl
        · rw [w2 k e, zx_u2_k e]
          exact hp k (by omega)
theorem t_mp286 (l : Launch) (d : Nat) {Q : zi_Q} {fs : Nat → Nat → Nat} (g : g_Mod K RJ m) (hk : ks ≤ 64) (hT4 : T ≤ 4) (hfl : ∀ t, t < T → ∀ s, s < ks + 2 → 1 ≤ fs t s ∧ fs t s ≤ 12) :
    ∀ (j t : Nat) (I : zi_I), t + j = T → I m 22 = nI ks → I m 25 = nI T → (∀ t', t' < T → a_Tb I m t' (ks + 2) (fs t')) → (∀ t', t' < t → ∀ s, s < ks + 2 → I (m + 11) (260 * t' + s) = nI (cd_c (fs t') (ks + 2) s)) →
      (∀ I2, (∀ t', t' < T → ∀ s, s < ks + 2 → I2 (m + 11) (260 * t' + s) = nI (cd_c (fs t') (ks + 2) s)) → zf [m + 11] I I2 → Q none I2) →
      zi_X l (zx_rm (d + 1) 0 0) M_Mod_pick K RJ Q 286 [(0, .ref m), (1, .int (nI t))] [] I := by
  intro j
  induction j with
  | zero =>
    intro t I ht h22 h25 hl hc q
    obtain rfl : t = T := by omega
    refine r_Mod_pick_286 l d m _ g.1 ⟨fun _ => q I hc zf_refl, fun c => ?_⟩
    rw [h25, nI_leI (by omega) (by omega)] at c
    omega
  | succ j ih =>
    intro t I ht h22 h25 hl hc q
    refine r_Mod_pick_286 l d m _ g.1 ⟨fun c => ?_, fun _ => zi_mono (c_makeCodes (f := fs t) (ks := ks) l d g (by omega) (by omega) h22 (fun s hs len h1 h2 => ?_)) ?_⟩
    · rw [h25, nI_leI (by omega) (by omega)] at c
      omega
    · have := hfl t (by omega) s hs
      rw [hl t (by omega) s hs, nI_eq (by omega) (by omega)]
    · rintro r I2 ⟨rfl, v1, v2, v3⟩
      rw [nI_1]
      refine ⟨rfl, ih (t + 1) I2 (by omega) (by rw [zf_at v1 (by simp)]; exact h22) (by rw [zf_at v1 (by simp)]; exact h25) (fun t' ht' s hs => by rw [zf_at v1 (by simp)]; exact hl t' ht' s hs) (fun t' ht' s hs => ?_) (fun I3 y1 y2 => q I3 y1 (zf_trans v1 y2))⟩
      by_cases e : t' = t
      · rw [e]
        have := hfl t (by omega) s hs
        exact v3 s hs this.1 this.2
      · rw [v2 _ (by omega)]
        exact hc t' (by omega) s hs
theorem t_mp61 (l : Launch) (d : Nat) {Q : zi_Q} (g : g_Mod K RJ m) (hk : ks ≤ 64) (hy : y ≤ 65) (hs : ∀ k, k < y → sy k < ks + 2) (hG : G ≤ 63) (hyG : y ≤ 8 * G) (hT : 0 < T) (hT4 : T ≤ 4) :
    ∀ (j r : Nat) (I : zi_I), r + j = 3 → a_MS I m y sy → I m 22 = nI ks → I m 25 = nI T → a_MP I m G (pc_pk sy y (ks + 2) T r) → (0 < r → ∀ t', t' < T → a_Tb I m t' (ks + 2) (pc_ln sy y (ks + 2) T (r - 1) t')) →
      (∀ I2, a_MP I2 m G (pc_pk sy y (ks + 2) T 3) → (∀ t', t' < T → a_Tb I2 m t' (ks + 2) (pc_ln sy y (ks + 2) T 2 t')) → zg m [] [m + 10, m + 12, m + 15, m + 16] I I2 → zi_X l (zx_rm (d + 2) 0 0) M_Mod_pick K RJ Q 286 [(0, .ref m), (1, .int 0)] [] I2) →
      zi_X l (zx_rm (d + 2) 0 0) M_Mod_pick K RJ Q 61 [(0, .ref m), (1, .int (nI r))] [] I := by
  intro j
  induction j with
  | zero =>
    intro r I hr a1 h22 h25 a2 hl q
    obtain rfl : r = 3 := by omega
    refine r_Mod_pick_61 l (d + 1) m _ ⟨fun _ => q I a2 (hl (by omega)) zg_refl, fun c => ?_⟩
    rw [show (3 : Int32) = nI 3 from rfl, nI_leI (by omega) (by omega)] at c
    omega
  | succ j ih =>
    intro r I hr a1 h22 h25 a2 hl q
    refine r_Mod_pick_61 l (d + 1) m _ ⟨fun c => ?_, fun _ => ?_⟩
    · rw [show (3 : Int32) = nI 3 from rfl, nI_leI (by omega) (by omega)] at c
      omega
    · refine t_mp68 (r := r) (G := G) (T := T) (y := y) (ks := ks) (sy := sy) l d g hk hy hs hG hyG hT hT4 T 0 I (by omega) a1 h22 h25 a2 (fun _ h => absurd h (by omega)) (fun I2 w1 w2 => ?_)
      refine t_mp205 (r := r) (G := G) (T := T) (y := y) (ks := ks) (sy := sy) l (d + 1) g hk hy hs hG hT hT4 G 0 I2 (by omega) (a1.keep w2 (by simp) (by simp)) (by rw [w2.1 28 (by simp)]; exact a2.1) (by rw [w2.1 25 (by simp)]; exact h25) w1 (fun _ h => absurd h (by omega)) (fun I3 v1 v2 => ?_)
      have z2 : zg m [] [m + 10, m + 12, m + 15, m + 16] I I3 := zg_trans (zg_mono w2 (by simp) (fun q hq => by simp only [List.mem_cons, List.not_mem_nil, or_false] at hq ⊢; omega)) (zg_mono v2 (by simp) (fun q hq => by simp only [List.mem_cons, List.not_mem_nil, or_false] at hq ⊢; omega))
      rw [nI_1]
      exact ih (r + 1) I3 (by omega) (a1.keep z2 (by simp) (by simp)) (by rw [z2.1 22 (by simp)]; exact h22) (by rw [z2.1 25 (by simp)]; exact h25) ⟨by rw [z2.1 28 (by simp)]; exact a2.1, v1⟩ (fun _ t ht => (w1 t ht).keep v2 (by simp)) (fun I4 u1 u2 u3 => q I4 u1 u2 (zg_trans z2 u3))
theorem pc_ln_ge {T r t s n : Nat} (hn : 2 ≤ n) (hn2 : n ≤ 66) (hs : s < n) : 1 ≤ pc_ln sy y n T r t s := hf_len_ge hn hn2 hs
theorem c_pick (l : Launch) (d : Nat) {I : zi_I} (g : g_Mod K RJ m) (hk : ks ≤ 64) (hy : y ≤ 65) (hs : ∀ k, k < y → sy k < ks + 2) (a1 : a_MS I m y sy) (h22 : I m 22 = nI ks) :
    zi_C l (zx_rm (d + 2) 0 0) M_Mod_pick [.ref m] K RJ I (fun r I2 => r = none ∧ I2 m 25 = nI (pc_T ((y + 7) / 8)) ∧ a_MP I2 m ((y + 7) / 8) (pc_pk sy y (ks + 2) (pc_T ((y + 7) / 8)) 3) ∧ (∀ t, t < pc_T ((y + 7) / 8) → a_Tb I2 m t (ks + 2) (pc_ln sy y (ks + 2) (pc_T ((y + 7) / 8)) 2 t) ∧ ∀ s, s < ks + 2 → I2 (m + 11) (260 * t + s) = nI (cd_c (pc_ln sy y (ks + 2) (pc_T ((y + 7) / 8)) 2 t) (ks + 2) s)) ∧ zg m [25, 28] [m + 10, m + 11, m + 12, m + 15, m + 16] I I2) := by
  have e : (I m 17 + 7) / 8 = nI ((y + 7) / 8) := by
    rw [a1.1, show nI y + 7 = nI (y + 7) from nI_add y 7]
    exact pk_div (d := 8) (by omega) (by omega) (by omega)
  have main : ∀ T, 0 < T → T ≤ 4 → T = pc_T ((y + 7) / 8) → zi_X l (zx_rm (d + 2) 0 0) M_Mod_pick K RJ (fun r I2 => r = none ∧ I2 m 25 = nI (pc_T ((y + 7) / 8)) ∧ a_MP I2 m ((y + 7) / 8) (pc_pk sy y (ks + 2) (pc_T ((y + 7) / 8)) 3) ∧ (∀ t, t < pc_T ((y + 7) / 8) → a_Tb I2 m t (ks + 2) (pc_ln sy y (ks + 2) (pc_T ((y + 7) / 8)) 2 t) ∧ ∀ s, s < ks + 2 → I2 (m + 11) (260 * t + s) = nI (cd_c (pc_ln sy y (ks + 2) (pc_T ((y + 7) / 8)) 2 t) (ks + 2) s)) ∧ zg m [25, 28] [m + 10, m + 11, m + 12, m + 15, m + 16] I I2) 33 [(0, .ref m), (1, .int (nI 0))] [] (zx_u2 (zx_u2 I m 28 (nI ((y + 7) / 8))) m 25 (nI T)) := by
    intro T hT hT4 eT
    have z0 : zg m [25, 28] [m + 10, m + 11, m + 12, m + 15, m + 16] I (zx_u2 (zx_u2 I m 28 (nI ((y + 7) / 8))) m 25 (nI T)) := zg_trans (zg_fld (by simp)) (zg_fld (by simp))
    refine t_mp33 (G := (y + 7) / 8) (T := T) l (d + 1) g (by omega) hT hT4 ((y + 7) / 8) 0 _ (by omega) (by rw [zx_u2_k (by omega), zx_u2_s]) zx_u2_s (fun _ h => absurd h (by omega)) (fun I2 v1 v2 => ?_)
    have z1 : zg m [25, 28] [m + 10, m + 11, m + 12, m + 15, m + 16] I I2 := zg_trans z0 ⟨fun j _ => zf_at v2 (by simp) j, zf_mono v2 (by simp)⟩
    have h28 : I2 m 28 = nI ((y + 7) / 8) := by rw [zf_at v2 (by simp), zx_u2_k (by omega), zx_u2_s]
    have h25 : I2 m 25 = nI T := by rw [zf_at v2 (by simp), zx_u2_s]
    refine t_mp61 (G := (y + 7) / 8) (T := T) (y := y) (ks := ks) (sy := sy) l d g hk hy hs (by omega) (by omega) hT hT4 3 0 I2 (by omega) (a1.keep z1 (by simp) (by simp)) (by rw [z1.1 22 (by simp)]; exact h22) h25 ⟨h28, v1⟩ (fun h => absurd h (by omega)) (fun I3 w1 w2 w3 => ?_)
    have z3 : zg m [25, 28] [m + 10, m + 11, m + 12, m + 15, m + 16] I I3 := zg_trans z1 (zg_mono w3 (by simp) (fun q hq => by simp only [List.mem_cons, List.not_mem_nil, or_false] at hq ⊢; omega))
    have h25' : I3 m 25 = nI T := by rw [w3.1 25 (by simp)]; exact h25
    refine t_mp286 (fs := pc_ln sy y (ks + 2) T 2) (T := T) (ks := ks) l (d + 1) g hk hT4 (fun t ht s hs' => ⟨pc_ln_ge (by omega) (by omega) hs', Nat.le_trans (pc_ln_le (by omega) (by omega) (by omega) hs') (by omega)⟩) T 0 I3 (by omega) (by rw [z3.1 22 (by simp)]; exact h22) h25' w2 (fun _ h => absurd h (by omega)) (fun I4 u1 u2 => ?_)
    have z4 : zg m [] [m + 11] I3 I4 := ⟨fun j _ => zf_at u2 (by simp) j, zf_mono u2 (by simp)⟩
    subst eT
    exact ⟨rfl, by rw [z4.1 25 (by simp)]; exact h25', w1.keep z4 (by simp) (by simp), fun t ht => ⟨(w2 t ht).keep z4 (by simp), u1 t ht⟩, zg_trans z3 (zg_mono z4 (by simp) (by simp))⟩
  refine zi_of (by decide) (fun α => Nat.le_of_ble_eq_true rfl) (r_Mod_pick_0 l (d + 1) m g.1 ?_)
  rw [e, show (4 : Int32) = nI 4 from rfl, nI_leI (by omega) (by omega)]
  exact ⟨fun c => main 2 (by omega) (by omega) (by unfold pc_T; rw [if_pos c]), fun c => main 3 (by omega) (by omega) (by unfold pc_T; rw [if_neg c])⟩
end MK
