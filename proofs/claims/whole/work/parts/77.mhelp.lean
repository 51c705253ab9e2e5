/-! The reference takes over, adds bytes, remembers. -/
def a_ML (I : zi_I) (m : Nat) (B : bk_B) : Prop := I m 35 = nI B.og ∧ I m 36 = nI B.sh.length ∧ I m 37 = nI B.sl.length ∧ I m 38 = nI B.T ∧ I m 39 = nI B.G ∧ I m 40 = nI B.ks.length ∧ I m 41 = nI B.ch ∧ (∀ i, i < B.co.length → I (m + 17) i = nI (B.co.getD i 0)) ∧ (∀ i, i < B.sl.length → I (m + 18) i = nI (B.sl.getD i 0)) ∧ (∀ t, t < B.T → ∀ s, s < B.ks.length + 2 → I (m + 19) (260 * t + s) = nI (B.ln t s)) ∧ ∀ g, g < B.G → I (m + 20) g = nI (B.pk g)
def ml_F : List Nat := [35, 36, 37, 38, 39, 40, 41]
theorem a_ML.keep {I I2 : zi_I} {m : Nat} {B : bk_B} {F S : List Nat} (a : a_ML I m B) (h : zg m F S I I2) (hF : ∀ j ∈ F, j < 35 ∨ 41 < j) (hS : ∀ q ∈ S, q < m + 17 ∨ m + 20 < q) : a_ML I2 m B := by
  have f : ∀ j, 35 ≤ j → j ≤ 41 → I2 m j = I m j := fun j h1 h2 => h.1 j (fun z => by have := hF j z; omega)
  have e : ∀ q, m + 17 ≤ q → q ≤ m + 20 → I2 q = I q := fun q h1 h2 => h.2 q (fun z => by
    rcases List.mem_cons.mp z with z | z
    · omega
    · have := hS q z
      omega)
  obtain ⟨a1, a2, a3, a4, a5, a6, a7, a8, a9, a10, a11⟩ := a
  refine ⟨?_, ?_, ?_, ?_, ?_, ?_, ?_, ?_, ?_, ?_, ?_⟩
  · rw [f _ (by omega) (by omega)]; exact a1
  · rw [f _ (by omega) (by omega)]; exact a2
  · rw [f _ (by omega) (by omega)]; exact a3
  · rw [f _ (by omega) (by omega)]; exact a4
  · rw [f _ (by omega) (by omega)]; exact a5
  · rw [f _ (by omega) (by omega)]; exact a6
  · rw [f _ (by omega) (by omega)]; exact a7
  · rw [e _ (by omega) (by omega)]; exact a8
  · rw [e _ (by omega) (by omega)]; exact a9
  · rw [e _ (by omega) (by omega)]; exact a10
  · rw [e _ (by omega) (by omega)]; exact a11
section MHP
variable {K : zx_Kt} {RJ : zx_RJ} {m : Nat}
theorem t_to2 (l : Launch) (d : Nat) {Q : zi_Q} {fs : List Nat} (g : g_Mod K RJ m) (hl : fs.length ≤ 8000) :
    ∀ (j k : Nat) (I : zi_I), k + j = fs.length → aL I m 5 (m + 3) fs → (∀ i, i < k → I (m + 2) i = nI (fs.getD i 0)) →
      (∀ I2, aL I2 m 3 (m + 2) fs → zg m [3] [m + 2] I I2 → Q none I2) →
      zi_X l (zx_rm d 0 0) M_Mod_takeOver K RJ Q 2 [(0, .ref m), (1, .int (nI k))] [] I := by
  intro j
  induction j with
  | zero =>
    intro k I hk a ho q
    obtain rfl : k = fs.length := by omega
    refine r_Mod_takeOver_2 l d m _ g.1 g.outRowR (by omega) g.freshR (by omega) g.freshK g.outRowK ⟨fun _ => q _ ⟨by rw [zx_u2_s]; exact a.1, fun i hi => by rw [zx_u2_ne (by omega)]; exact ho i hi⟩ (zg_fld (by simp)), fun c => ?_⟩
    rw [a.1, nI_leI (by omega) (by omega)] at c
    omega
  | succ j ih =>
    intro k I hk a ho q
    refine r_Mod_takeOver_2 l d m _ g.1 g.outRowR (by omega) g.freshR (by omega) g.freshK g.outRowK ⟨fun c => ?_, fun _ => ⟨k, rfl, by omega, k, rfl, by omega, ?_⟩⟩
    · rw [a.1, nI_leI (by omega) (by omega)] at c
      omega
    · rw [a.2 k (by omega), nI_1]
      have z : zg m [3] [m + 2] I (zx_u2 I (m + 2) k (nI (fs.getD k 0))) := zg_arr (by simp) (by omega)
      refine ih (k + 1) _ (by omega) (a.keepg z (by simp) (by omega) (by simp)) (fun i hi => ?_) (fun I3 y1 y2 => q I3 y1 (zg_trans z y2))
      by_cases e : i = k
      · rw [e, zx_u2_s]
      · rw [zx_u2_k e]
        exact ho i (by omega)
theorem c_takeOver (l : Launch) (d : Nat) {I : zi_I} {fs : List Nat} (g : g_Mod K RJ m) (hl : fs.length ≤ 8000) (a : aL I m 5 (m + 3) fs) :
    zi_C l (zx_rm d 0 0) M_Mod_takeOver [.ref m] K RJ I (fun r I2 => r = none ∧ aL I2 m 3 (m + 2) fs ∧ zg m [3] [m + 2] I I2) :=
  zi_of (by decide) (fun α => Nat.le_of_ble_eq_true rfl) (r_Mod_takeOver_0 l d m (t_to2 l d g hl fs.length 0 I (by omega) a (fun _ h => absurd h (by omega)) (fun I2 y1 y2 => ⟨rfl, y1, y2⟩)))
theorem t_abm (l : Launch) (d : Nat) {Q : zi_Q} {out : List Nat} (g : g_Mod K RJ m) (ho : out.length ≤ 3600) :
    ∀ (j k : Nat) (fs : List Nat) (I : zi_I), k + j = out.length → fs.length + j ≤ 8000 → aL I m 12 (m + 4) out → aL I m 5 (m + 3) fs →
      (∀ I2, aL I2 m 5 (m + 3) (fs ++ out.drop k) → zg m [5] [m + 3] I I2 → Q none I2) →
      zi_X l (zx_rm d 0 0) M_Mod_addBytes K RJ Q 2 [(0, .ref m), (1, .int (nI k))] [] I := by
  intro j
  induction j with
  | zero =>
    intro k fs I hk hl a af q
    obtain rfl : k = out.length := by omega
    refine r_Mod_addBytes_2 l d m _ g.1 g.freshR (by omega) g.plainR (by omega) g.plainK g.freshK ⟨fun _ => q I (by rw [List.drop_length, List.append_nil]; exact af) zg_refl, fun c => ?_⟩
    rw [a.1, nI_leI (by omega) (by omega)] at c
    omega
  | succ j ih =>
    intro k fs I hk hl a af q
    refine r_Mod_addBytes_2 l d m _ g.1 g.freshR (by omega) g.plainR (by omega) g.plainK g.freshK ⟨fun c => ?_, fun _ => ⟨k, rfl, by omega, fs.length, af.1, by omega, ?_⟩⟩
    · rw [a.1, nI_leI (by omega) (by omega)] at c
      omega
    · rw [a.2 k (by omega), af.1, nI_1, nI_1]
      have z : zg m [5] [m + 3] I (zx_u2 (zx_u2 I (m + 3) fs.length (nI (out.getD k 0))) m 5 (nI (fs.length + 1))) := zg_trans (zg_arr (by simp) (by omega)) (zg_fld (by simp))
      refine ih (k + 1) (fs ++ [out.getD k 0]) _ (by omega) (by rw [List.length_append, List.length_singleton]; omega) (a.keepg z (by simp) (by omega) (by simp)) (aL_add af (by omega)) (fun I3 y1 y2 => q I3 ?_ (zg_trans z y2))
      have ed : out.drop k = out.getD k 0 :: out.drop (k + 1) := by
        rw [List.drop_eq_getElem_cons (show k < out.length by omega)]
        congr 1
        rw [List.getD_eq_getElem?_getD, List.getElem?_eq_getElem (show k < out.length by omega)]
        rfl
      rw [ed]
      rw [List.append_assoc] at y1
      exact y1
theorem c_maddBytes (l : Launch) (d : Nat) {I : zi_I} {fs out : List Nat} (g : g_Mod K RJ m) (ho : out.length ≤ 3600) (hl : fs.length + out.length ≤ 8000) (a : aL I m 12 (m + 4) out) (af : aL I m 5 (m + 3) fs) :
    zi_C l (zx_rm d 0 0) M_Mod_addBytes [.ref m] K RJ I (fun r I2 => r = none ∧ aL I2 m 5 (m + 3) (fs ++ out) ∧ zg m [5] [m + 3] I I2) :=
  zi_of (by decide) (fun α => Nat.le_of_ble_eq_true rfl) (r_Mod_addBytes_0 l d m (t_abm l d g ho out.length 0 fs I (by omega) hl a af (fun I2 y1 y2 => ⟨rfl, y1, y2⟩)))
theorem c_tooMuch (l : Launch) (d : Nat) {I : zi_I} {fs out : List Nat} (g : g_Mod K RJ m) (hl : fs.length + out.length < 2 ^ 20) (a : I m 12 = nI out.length) (af : I m 5 = nI fs.length) :
    zi_C l (zx_rm d 0 0) M_Mod_tooMuch [.ref m] K RJ I (fun r I2 => r = some (.int (if 2000 < fs.length + out.length then 1 else 0)) ∧ I2 = I) := by
  refine zi_of (by decide) (fun α => Nat.le_of_ble_eq_true rfl) (r_Mod_tooMuch_0 l d m g.1 ?_)
  rw [a, af, nI_add, show (2000 : Int32) = nI 2000 from rfl, nI_leI (by omega) (by omega)]
  exact ⟨fun c => ⟨by rw [if_neg (by omega)], rfl⟩, fun c => ⟨by rw [if_pos (by omega)], rfl⟩⟩
theorem t_re58 (l : Launch) (d : Nat) {Q : zi_Q} (g : g_Mod K RJ m) :
    ∀ (j k : Nat) (I : zi_I), k + j = 80 → (∀ i, i < k → I (m + 17) i = I (m + 6) i ∧ I (m + 18) i = I (m + 7) i) →
      (∀ I2, (∀ i, i < 80 → I2 (m + 17) i = I2 (m + 6) i ∧ I2 (m + 18) i = I2 (m + 7) i) → zg m [] [m + 17, m + 18] I I2 → zi_X l (zx_rm d 0 0) M_Mod_remember K RJ Q 96 [(0, .ref m), (1, .int 0)] [] I2) →
      zi_X l (zx_rm d 0 0) M_Mod_remember K RJ Q 58 [(0, .ref m), (1, .int (nI k))] [] I := by
  intro j
  induction j with
  | zero =>
    intro k I hk h q
    obtain rfl : k = 80 := by omega
    exact r_Mod_remember_58 l d m _ g.1 g.lastColumnR (by omega) g.columnR (by omega) g.columnK g.lastColumnK g.lastSymbolRowR (by omega) g.symbolsR (by omega) g.symbolsK g.lastSymbolRowK ⟨fun _ => q I h zg_refl, fun c => absurd (by decide) c⟩
  | succ j ih =>
    intro k I hk h q
    refine r_Mod_remember_58 l d m _ g.1 g.lastColumnR (by omega) g.columnR (by omega) g.columnK g.lastColumnK g.lastSymbolRowR (by omega) g.symbolsR (by omega) g.symbolsK g.lastSymbolRowK ⟨fun c => ?_, fun _ => ⟨k, rfl, by omega, k, rfl, by omega, k, rfl, by omega, k, rfl, by omega, ?_⟩⟩
    · rw [show (80 : Int32) = nI 80 from rfl, nI_leI (by omega) (by omega)] at c
      omega
    · rw [nI_1]
      have z : zg m [] [m + 17, m + 18] I (zx_u2 (zx_u2 I (m + 17) k (I (m + 6) k)) (m + 18) k (zx_u2 I (m + 17) k (I (m + 6) k) (m + 7) k)) := zg_trans (zg_arr (by simp) (by omega)) (zg_arr (by simp) (by omega))
      refine ih (k + 1) _ (by omega) (fun i hi => ?_) (fun I3 y1 y2 => q I3 y1 (zg_trans z y2))
      by_cases e : i = k
      · rw [e]
        refine ⟨?_, ?_⟩
        · rw [zx_u2_ne (by omega), zx_u2_s, zx_u2_ne (by omega), zx_u2_ne (by omega)]
        · rw [zx_u2_s, zx_u2_ne (by omega), zx_u2_ne (by omega), zx_u2_ne (by omega)]
      · obtain ⟨h1, h2⟩ := h i (by omega)
        refine ⟨?_, ?_⟩
        · rw [zx_u2_ne (by omega), zx_u2_k e, zx_u2_ne (by omega), zx_u2_ne (by omega)]
          exact h1
        · rw [zx_u2_k e, zx_u2_ne (by omega), zx_u2_ne (by omega), zx_u2_ne (by omega)]
          exact h2
theorem t_re96 (l : Launch) (d : Nat) {Q : zi_Q} (g : g_Mod K RJ m) :
    ∀ (j k : Nat) (I : zi_I), k + j = 1040 → (∀ i, i < k → I (m + 19) i = I (m + 10) i) →
      (∀ I2, (∀ i, i < 1040 → I2 (m + 19) i = I2 (m + 10) i) → zg m [] [m + 19] I I2 → zi_X l (zx_rm d 0 0) M_Mod_remember K RJ Q 123 [(0, .ref m), (1, .int 0)] [] I2) →
      zi_X l (zx_rm d 0 0) M_Mod_remember K RJ Q 96 [(0, .ref m), (1, .int (nI k))] [] I := by
  intro j
  induction j with
  | zero =>
    intro k I hk h q
    obtain rfl : k = 1040 := by omega
    exact r_Mod_remember_96 l d m _ g.1 g.lastLengthsR (by omega) g.lengthsR (by omega) g.lengthsK g.lastLengthsK ⟨fun _ => q I h zg_refl, fun c => absurd (by decide) c⟩
  | succ j ih =>
    intro k I hk h q
    refine r_Mod_remember_96 l d m _ g.1 g.lastLengthsR (by omega) g.lengthsR (by omega) g.lengthsK g.lastLengthsK ⟨fun c => ?_, fun _ => ⟨k, rfl, by omega, k, rfl, by omega, ?_⟩⟩
    · rw [show (1040 : Int32) = nI 1040 from rfl, nI_leI (by omega) (by omega)] at c
      omega
    · rw [nI_1]
      have z : zg m [] [m + 19] I (zx_u2 I (m + 19) k (I (m + 10) k)) := zg_arr (by simp) (by omega)
      refine ih (k + 1) _ (by omega) (fun i hi => ?_) (fun I3 y1 y2 => q I3 y1 (zg_trans z y2))
      by_cases e : i = k
      · rw [e, zx_u2_s, zx_u2_ne (by omega)]
      · rw [zx_u2_k e, zx_u2_ne (by omega)]
        exact h i (by omega)
theorem t_re123 (l : Launch) (d : Nat) {Q : zi_Q} (g : g_Mod K RJ m) :
    ∀ (j k : Nat) (I : zi_I), k + j = 64 → (∀ i, i < k → I (m + 20) i = I (m + 12) i) →
      (∀ I2, (∀ i, i < 64 → I2 (m + 20) i = I2 (m + 12) i) → zg m [] [m + 20] I I2 → Q none I2) →
      zi_X l (zx_rm d 0 0) M_Mod_remember K RJ Q 123 [(0, .ref m), (1, .int (nI k))] [] I := by
  intro j
  induction j with
  | zero =>
    intro k I hk h q
    obtain rfl : k = 64 := by omega
    exact r_Mod_remember_123 l d m _ g.1 g.lastPicksR (by omega) g.picksR (by omega) g.picksK g.lastPicksK ⟨fun _ => q I h zg_refl, fun c => absurd (by decide) c⟩
  | succ j ih =>
    intro k I hk h q
    refine r_Mod_remember_123 l d m _ g.1 g.lastPicksR (by omega) g.picksR (by omega) g.picksK g.lastPicksK ⟨fun c => ?_, fun _ => ⟨k, rfl, by omega, k, rfl, by omega, ?_⟩⟩
    · rw [show (64 : Int32) = nI 64 from rfl, nI_leI (by omega) (by omega)] at c
      omega
    · rw [nI_1]
      have z : zg m [] [m + 20] I (zx_u2 I (m + 20) k (I (m + 12) k)) := zg_arr (by simp) (by omega)
      refine ih (k + 1) _ (by omega) (fun i hi => ?_) (fun I3 y1 y2 => q I3 y1 (zg_trans z y2))
      by_cases e : i = k
      · rw [e, zx_u2_s, zx_u2_ne (by omega)]
      · rw [zx_u2_k e, zx_u2_ne (by omega)]
        exact h i (by omega)
theorem c_remember (l : Launch) (d : Nat) {I : zi_I} {B : bk_B} (g : g_Mod K RJ m) (hB : bk_ok B) (a : a_MB I m B) :
    zi_C l (zx_rm d 0 0) M_Mod_remember [.ref m] K RJ I (fun r I2 => r = none ∧ a_ML I2 m B ∧ zg m ml_F [m + 17, m + 18, m + 19, m + 20] I I2) := by
  have hco := hB.co
  have hsh := hB.sh
  have hsl := hB.sl
  have hT := hB.T
  have hks := hB.ks
  have hG := hB.G
  refine zi_of (by decide) (fun α => Nat.le_of_ble_eq_true rfl) (r_Mod_remember_0 l d m g.1 ?_)
  generalize hI1 : zx_u2 (zx_u2 (zx_u2 (zx_u2 (zx_u2 (zx_u2 (zx_u2 I m 35 (I m 21)) m 36 (I m 14)) m 37 (I m 17)) m 38 (I m 25)) m 39 (I m 28)) m 40 (I m 22)) m 41 (I m 19) = I1
  have z1 : zg m ml_F [m + 17, m + 18, m + 19, m + 20] I I1 := by
    rw [← hI1]
    have f : ∀ {j : Nat} {v : Int32} {J : zi_I}, j ∈ ml_F → zg m ml_F [m + 17, m + 18, m + 19, m + 20] J (zx_u2 J m j v) := fun {_ _ _} h => zg_fld h
    exact zg_trans (zg_trans (zg_trans (zg_trans (zg_trans (zg_trans (f (by unfold ml_F; simp)) (f (by unfold ml_F; simp))) (f (by unfold ml_F; simp))) (f (by unfold ml_F; simp))) (f (by unfold ml_F; simp))) (f (by unfold ml_F; simp))) (f (by unfold ml_F; simp))
  have z1' : zg m ml_F [] I I1 := by
    rw [← hI1]
    have f : ∀ {j : Nat} {v : Int32} {J : zi_I}, j ∈ ml_F → zg m ml_F [] J (zx_u2 J m j v) := fun {_ _ _} h => zg_fld h
    exact zg_trans (zg_trans (zg_trans (zg_trans (zg_trans (zg_trans (f (by unfold ml_F; simp)) (f (by unfold ml_F; simp))) (f (by unfold ml_F; simp))) (f (by unfold ml_F; simp))) (f (by unfold ml_F; simp))) (f (by unfold ml_F; simp))) (f (by unfold ml_F; simp))
  have v35 : I1 m 35 = nI B.og := by rw [← hI1]; simp only [zx_u2]; simp; exact a.og
  have v36 : I1 m 36 = nI B.sh.length := by rw [← hI1]; simp only [zx_u2]; simp; exact a.sh.1
  have v37 : I1 m 37 = nI B.sl.length := by rw [← hI1]; simp only [zx_u2]; simp; exact a.sl.1
  have v38 : I1 m 38 = nI B.T := by rw [← hI1]; simp only [zx_u2]; simp; exact a.T
  have v39 : I1 m 39 = nI B.G := by rw [← hI1]; simp only [zx_u2]; simp; exact a.pk.1
  have v40 : I1 m 40 = nI B.ks.length := by rw [← hI1]; simp only [zx_u2]; simp; exact a.ks
  have v41 : I1 m 41 = nI B.ch := by rw [← hI1]; simp only [zx_u2]; simp; exact a.ch
  refine t_re58 l d g 80 0 I1 (by omega) (fun _ h => absurd h (by omega)) (fun I2 w1 w2 => ?_)
  refine t_re96 l d g 1040 0 I2 (by omega) (fun _ h => absurd h (by omega)) (fun I3 u1 u2 => ?_)
  refine t_re123 l d g 64 0 I3 (by omega) (fun _ h => absurd h (by omega)) (fun I4 t1 t2 => ⟨rfl, ?_, zg_trans (zg_trans (zg_trans z1 (zg_mono w2 (by simp) (by simp))) (zg_mono u2 (by simp) (by simp))) (zg_mono t2 (by simp) (by simp))⟩)
  have z4 : zg m [] [m + 17, m + 18, m + 19, m + 20] I1 I4 := zg_trans (zg_trans (zg_mono w2 (by simp) (by simp)) (zg_mono u2 (by simp) (by simp))) (zg_mono t2 (by simp) (by simp))
  have old : ∀ q, q ≠ m → q < m + 17 → I4 q = I q := fun q h1 h2 => by
    rw [z4.2 q (by simp only [List.mem_cons, List.not_mem_nil, or_false, not_or]; omega), z1'.2 q (by simp; exact h1)]
  refine ⟨?_, ?_, ?_, ?_, ?_, ?_, ?_, fun i hi => ?_, fun i hi => ?_, fun t ht s hs => ?_, fun i hi => ?_⟩
  · rw [z4.1 35 (by simp)]; exact v35
  · rw [z4.1 36 (by simp)]; exact v36
  · rw [z4.1 37 (by simp)]; exact v37
  · rw [z4.1 38 (by simp)]; exact v38
  · rw [z4.1 39 (by simp)]; exact v39
  · rw [z4.1 40 (by simp)]; exact v40
  · rw [z4.1 41 (by simp)]; exact v41
  · rw [zg_cell t2 (by omega) (by simp), zg_cell u2 (by omega) (by simp), (w1 i (by omega)).1]
    have : I2 (m + 6) i = I (m + 6) i := by rw [zg_cell w2 (by omega) (by simp), zg_cell z1' (by omega) (by simp)]
    rw [this]
    exact a.co i hi
  · rw [zg_cell t2 (by omega) (by simp), zg_cell u2 (by omega) (by simp), (w1 i (by omega)).2]
    have : I2 (m + 7) i = I (m + 7) i := by rw [zg_cell w2 (by omega) (by simp), zg_cell z1' (by omega) (by simp)]
    rw [this]
    exact a.sl.2 i hi
  · rw [zg_cell t2 (by omega) (by simp), u1 _ (by omega)]
    have : I3 (m + 10) (260 * t + s) = I (m + 10) (260 * t + s) := by rw [zg_cell u2 (by omega) (by simp), zg_cell w2 (by omega) (by simp), zg_cell z1' (by omega) (by simp)]
    rw [this]
    exact a.ln t ht s hs
  · rw [t1 i (by omega), old _ (by omega) (by omega)]
    exact a.pk.2 i hi
end MHP
