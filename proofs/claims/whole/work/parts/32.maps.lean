/-! What is in a block: the maps, by both sides. -/
def mp (P : Nat → Bool) : Nat → Nat
  | 0 => 0
  | i + 1 => 2 * mp P i + (if P i = true then 1 else 0)
theorem mp_lt (P : Nat → Bool) : ∀ n, mp P n < 2 ^ n
  | 0 => by simp [mp]
  | n + 1 => by
    have := mp_lt P n
    rw [Nat.pow_succ]
    simp only [mp]
    split <;> omega
theorem mp_congr {P P2 : Nat → Bool} : ∀ n, (∀ i, i < n → P i = P2 i) → mp P n = mp P2 n
  | 0, _ => rfl
  | n + 1, h => by
    simp only [mp]
    rw [mp_congr n (fun i hi => h i (by omega)), h n (by omega)]
theorem mp_bit (P : Nat → Bool) : ∀ n i, i < n → mp P n / 2 ^ (n - 1 - i) % 2 = if P i = true then 1 else 0
  | 0, i, h => absurd h (Nat.not_lt_zero _)
  | n + 1, i, h => by
    by_cases hi : i = n
    · subst hi
      rw [show i + 1 - 1 - i = 0 by omega]
      simp only [mp, Nat.pow_zero, Nat.div_one]
      split <;> omega
    · rw [show n + 1 - 1 - i = (n - 1 - i) + 1 by omega, Nat.pow_succ, Nat.mul_comm, ← Nat.div_div_eq_div_mul]
      rw [show mp P (n + 1) / 2 = mp P n by simp only [mp]; split <;> omega]
      exact mp_bit P n i (by omega)
theorem or_2 {x y b c : Nat} (hb : b < 2) (hc : c < 2) : (2 * x + b) ||| (2 * y + c) = 2 * (x ||| y) + (b ||| c) := by
  have h1 : ((2 * x + b) ||| (2 * y + c)) / 2 = x ||| y := by
    have := Nat.or_div_two_pow (a := 2 * x + b) (b := 2 * y + c) (n := 1)
    rw [Nat.pow_one] at this
    rw [this, show (2 * x + b) / 2 = x by omega, show (2 * y + c) / 2 = y by omega]
  have h2 : ((2 * x + b) ||| (2 * y + c)) % 2 = b ||| c := by
    have := Nat.or_mod_two_pow (a := 2 * x + b) (b := 2 * y + c) (n := 1)
    rw [Nat.pow_one] at this
    rw [this, show (2 * x + b) % 2 = b by omega, show (2 * y + c) % 2 = c by omega]
  omega
theorem mp_or (P : Nat → Bool) : ∀ n i, i < n → mp P n ||| 2 ^ (n - 1 - i) = mp (fun j => P j || decide (j = i)) n
  | 0, i, h => absurd h (Nat.not_lt_zero _)
  | n + 1, i, h => by
    by_cases hi : i = n
    · subst hi
      rw [show i + 1 - 1 - i = 0 by omega, Nat.pow_zero]
      have e : mp (fun j => P j || decide (j = i)) i = mp P i := mp_congr i (fun j hj => by simp; omega)
      simp only [mp]
      rw [e]
      have := or_2 (x := mp P i) (y := 0) (b := if P i = true then 1 else 0) (c := 1) (by split <;> omega) (by omega)
      rw [Nat.mul_zero, Nat.zero_add, Nat.or_zero] at this
      rw [this]
      cases P i <;> simp
    · have ih := mp_or P n i (by omega)
      rw [show n + 1 - 1 - i = (n - 1 - i) + 1 by omega, Nat.pow_succ, Nat.mul_comm]
      simp only [mp]
      have := or_2 (x := mp P n) (y := 2 ^ (n - 1 - i)) (b := if P n = true then 1 else 0) (c := 0) (by split <;> omega) (by omega)
      rw [Nat.add_zero, Nat.or_zero] at this
      rw [this, ih]
      have hne : decide (n = i) = false := by simp; omega
      simp [hne]
theorem mp_zero {P : Nat → Bool} : ∀ {n : Nat}, mp P n = 0 → ∀ i, i < n → P i = false
  | 0, _, i, h => absurd h (Nat.not_lt_zero _)
  | n + 1, h0, i, h => by
    simp only [mp] at h0
    by_cases hi : i = n
    · subst hi
      cases hp : P i
      · rfl
      · rw [hp] at h0
        simp at h0
    · exact mp_zero (n := n) (by omega) i (by omega)
/-- one of k from a on -/
def an (u : Nat → Bool) (a : Nat) : Nat → Bool
  | 0 => false
  | k + 1 => an u a k || u (a + k)
theorem an_iff {u : Nat → Bool} {a : Nat} : ∀ {k : Nat}, an u a k = true ↔ ∃ j, j < k ∧ u (a + j) = true
  | 0 => by simp [an]
  | k + 1 => by
    simp only [an, Bool.or_eq_true, an_iff (u := u) (a := a) (k := k)]
    constructor
    · rintro (⟨j, h1, h2⟩ | h)
      · exact ⟨j, by omega, h2⟩
      · exact ⟨k, by omega, h⟩
    · rintro ⟨j, h1, h2⟩
      by_cases e : j = k
      · exact Or.inr (e ▸ h2)
      · exact Or.inl ⟨j, by omega, h2⟩
def sp_mapsL (u : Nat → Bool) : ws_S → Nat → Nat → ws_S
  | s, _, 0 => s
  | s, i, j + 1 => sp_mapsL u (if an u (16 * i) 16 = true then ws_put s (mp (fun k => u (16 * i + k)) 16) 16 else s) (i + 1) j
def sp_maps (u : Nat → Bool) (s : ws_S) : ws_S := sp_mapsL u (ws_put s (mp (fun i => an u (16 * i) 16) 16) 16) 0 16
theorem ws_n_mapsL (u : Nat → Bool) : ∀ (j : Nat) (s : ws_S) (i : Nat), ws_n s ≤ ws_n (sp_mapsL u s i j)
  | 0, s, i => Nat.le_refl _
  | j + 1, s, i => by
    have := ws_n_mapsL u j (if an u (16 * i) 16 = true then ws_put s (mp (fun k => u (16 * i + k)) 16) 16 else s) (i + 1)
    refine Nat.le_trans ?_ this
    split
    · rw [ws_n_put]
      omega
    · exact Nat.le_refl _
section MM
variable {K : zx_Kt} {RJ : zx_RJ} {m : Nat} {u : Nat → Bool}
def a_Us (I : zi_I) (m : Nat) (u : Nat → Bool) : Prop := ∀ b, b < 256 → I (m + 8) b = if u b = true then 1 else 0
theorem a_Us.keep {I I2 : zi_I} {F S : List Nat} (a : a_Us I m u) (h : zg m F S I I2) (hs : m + 8 ∉ S) : a_Us I2 m u := fun b hb => by rw [zg_cell h (by omega) hs]; exact a b hb
theorem t_map23 (l : Launch) (d : Nat) {I : zi_I} {a wd i x : Nat} {Q : zi_Q} (g : g_Mod K RJ m) (au : a_Us I m u) (hb : a + wd * i + wd ≤ 256) (hi : i < 16) (hw : wd ≤ 16) (hx : x < 2 ^ 20) (ha : a ≤ 256)
    (hq : zi_X l (zx_rm d 0 0) M_Mod_mapOf K RJ Q 5 [(0, .ref m), (1, .int (nI a)), (2, .int (nI wd)), (3, .int (nI (2 * x + if an u (a + wd * i) wd = true then 1 else 0))), (4, .int (nI (i + 1)))] [] I) :
    ∀ (j k : Nat), k + j = wd → zi_X l (zx_rm d 0 0) M_Mod_mapOf K RJ Q 23 [(0, .ref m), (1, .int (nI a)), (2, .int (nI wd)), (3, .int (nI x)), (4, .int (nI i)), (5, .int (if an u (a + wd * i) k = true then 1 else 0)), (6, .int (nI (a + wd * i + k)))] [] I := by
  have e1 : nI a + nI wd * nI i + nI wd = nI (a + wd * i + wd) := by rw [pk_mul, nI_add, nI_add]
  intro j
  induction j with
  | zero =>
    intro k hk
    obtain rfl : k = wd := by omega
    refine r_Mod_mapOf_23 l d m _ _ _ _ _ _ g.1 g.usedR (by omega) g.usedK ⟨fun _ => ⟨fun c => ?_, fun c => ?_⟩, fun c => ?_⟩
    · have hc : ¬ an u (a + k * i) k = true := fun h => by rw [if_pos h] at c; exact absurd c (by decide)
      rw [if_neg hc] at hq
      rw [show (2 : Int32) = nI 2 from rfl, show (0 : Int32) = nI 0 from rfl, pk_mul, nI_add, nI_1]
      exact hq
    · have hc : an u (a + k * i) k = true := Decidable.byContradiction (fun h => by rw [if_neg h] at c; exact absurd rfl c)
      rw [if_pos hc] at hq
      rw [show (2 : Int32) = nI 2 from rfl, pk_mul, nI_1, nI_1]
      exact hq
    · rw [e1] at c
      exact absurd (nI_le (Nat.le_refl _) (by omega)) c
  | succ j ih =>
    intro k hk
    have ih := ih (k + 1) (by omega)
    refine r_Mod_mapOf_23 l d m _ _ _ _ _ _ g.1 g.usedR (by omega) g.usedK ⟨fun c => ?_, fun _ => ⟨fun c => ?_, fun c => ?_⟩⟩
    · rw [e1, nI_leI (by omega) (by omega)] at c
      omega
    · have hc : an u (a + wd * i) k = true := Decidable.byContradiction (fun h => by rw [if_neg h] at c; exact absurd rfl c)
      rw [nI_1]
      rw [if_pos (show an u (a + wd * i) (k + 1) = true by simp [an, hc])] at ih
      exact ih
    · have hc : ¬ an u (a + wd * i) k = true := fun h => by rw [if_pos h] at c; exact absurd c (by decide)
      have hcf : an u (a + wd * i) k = false := by simpa using hc
      refine ⟨a + wd * i + k, rfl, by omega, fun c2 => ?_, fun c2 => ?_⟩
      · have hu : ¬ u (a + wd * i + k) = true := fun h => by rw [au _ (by omega), if_pos h] at c2; exact absurd c2 (by decide)
        rw [nI_1]
        rw [if_neg (show ¬ an u (a + wd * i) (k + 1) = true by simp [an, hcf, hu])] at ih
        exact ih
      · have hu : u (a + wd * i + k) = true := Decidable.byContradiction (fun h => by rw [au _ (by omega), if_neg h] at c2; exact absurd rfl c2)
        rw [nI_1]
        rw [if_pos (show an u (a + wd * i) (k + 1) = true by simp [an, hu])] at ih
        exact ih
theorem t_map5 (l : Launch) (d : Nat) {I : zi_I} {a wd : Nat} {Q : zi_Q} (g : g_Mod K RJ m) (au : a_Us I m u) (hb : a + wd * 16 ≤ 256) (hw : wd ≤ 16) (hq : Q (some (.int (nI (mp (fun i => an u (a + wd * i) wd) 16)))) I) :
    ∀ (j i : Nat), i + j = 16 → zi_X l (zx_rm d 0 0) M_Mod_mapOf K RJ Q 5 [(0, .ref m), (1, .int (nI a)), (2, .int (nI wd)), (3, .int (nI (mp (fun i => an u (a + wd * i) wd) i))), (4, .int (nI i))] [] I := by
  intro j
  induction j with
  | zero =>
    intro i hi
    obtain rfl : i = 16 := by omega
    exact r_Mod_mapOf_5 l d m _ _ _ _ ⟨fun _ => hq, fun c => absurd (by decide) c⟩
  | succ j ih =>
    intro i hi
    refine r_Mod_mapOf_5 l d m _ _ _ _ ⟨fun c => ?_, fun _ => ?_⟩
    · rw [show (16 : Int32) = nI 16 from rfl, nI_leI (by omega) (by omega)] at c
      omega
    · have hm := mp_lt (fun i => an u (a + wd * i) wd) i
      have hm2 : 2 ^ i ≤ 2 ^ 15 := Nat.pow_le_pow_right (by omega) (by omega)
      have hmul : wd * i + wd ≤ wd * 16 := by
        have := Nat.mul_le_mul_left wd (show i + 1 ≤ 16 by omega)
        rw [Nat.mul_succ] at this
        exact this
      have h := t_map23 (x := mp (fun i => an u (a + wd * i) wd) i) l d g au (show a + wd * i + wd ≤ 256 by omega) (by omega) hw (by omega) (by omega) (ih (i + 1) (by omega)) wd 0 (by omega)
      rw [pk_mul, nI_add]
      exact h
theorem c_mapOf (l : Launch) (d : Nat) {I : zi_I} {a wd : Nat} (g : g_Mod K RJ m) (au : a_Us I m u) (hb : a + wd * 16 ≤ 256) (hw : wd ≤ 16) : zi_C l (zx_rm d 0 0) M_Mod_mapOf [.ref m, .int (nI a), .int (nI wd)] K RJ I (fun r I2 => r = some (.int (nI (mp (fun i => an u (a + wd * i) wd) 16))) ∧ I2 = I) :=
  zi_of (by decide) (fun α => Nat.le_of_ble_eq_true rfl) (r_Mod_mapOf_0 l d m _ _ (t_map5 (Q := fun r I2 => r = some (.int (nI (mp (fun i => an u (a + wd * i) wd) 16))) ∧ I2 = I) l d g au hb hw ⟨rfl, rfl⟩ 16 0 (by omega)))
theorem t_maps17 (l : Launch) (d : Nat) {M : Nat} {Q : zi_Q} (g : g_Mod K RJ m) (hml : M < 2 ^ 16) (hmb : ∀ i, i < 16 → M / 2 ^ (15 - i) % 2 = if an u (16 * i) 16 = true then 1 else 0) :
    ∀ (j i : Nat) (s : ws_S) (I : zi_I), i + j = 16 → a_Us I m u → md_W I m s → ws_n (sp_mapsL u s i j) ≤ 8 * 8000 →
      (∀ I2, md_W I2 m (sp_mapsL u s i j) → zg m [5, 11] [m + 3] I I2 → Q none I2) →
      zi_X l (zx_rm (d + 1) 0 0) M_Mod_writeMaps K RJ Q 17 [(0, .ref m), (1, .int (nI M)), (2, .int (nI i))] [] I := by
  intro j
  induction j with
  | zero =>
    intro i s I hi au a hn hq
    obtain rfl : i = 16 := by omega
    exact r_Mod_writeMaps_17 l d m _ _ g.1 ⟨fun _ => hq I a zg_refl, fun c => absurd (by decide) c⟩
  | succ j ih =>
    intro i s I hi au a hn hq
    have hbit : (nI M >>> ((15 - nI i) &&& 31)) &&& 1 = nI (if an u (16 * i) 16 = true then 1 else 0) := by
      rw [show (15 : Int32) = nI 15 from rfl, pk_sub (by omega), zb_shr (by omega) (by omega), zb_mod2 (Nat.lt_of_le_of_lt (Nat.div_le_self _ _) (by omega)), hmb i (by omega)]
    refine r_Mod_writeMaps_17 l d m _ _ g.1 ⟨fun c => ?_, fun _ => ⟨fun c => ?_, fun c => ?_⟩⟩
    · rw [show (16 : Int32) = nI 16 from rfl, nI_leI (by omega) (by omega)] at c
      omega
    · have hc : ¬ an u (16 * i) 16 = true := fun h => by rw [hbit, if_pos h] at c; exact absurd rfl c
      rw [nI_1]
      have e : sp_mapsL u s i (j + 1) = sp_mapsL u s (i + 1) j := by
        show sp_mapsL u (if an u (16 * i) 16 = true then _ else s) (i + 1) j = _
        rw [if_neg hc]
      rw [e] at hn hq
      exact ih (i + 1) s I (by omega) au a hn hq
    · have hc : an u (16 * i) 16 = true := Decidable.byContradiction (fun h => by rw [hbit, if_neg h] at c; exact absurd c (by decide))
      have e : sp_mapsL u s i (j + 1) = sp_mapsL u (ws_put s (mp (fun k => u (16 * i + k)) 16) 16) (i + 1) j := by
        show sp_mapsL u (if an u (16 * i) 16 = true then _ else s) (i + 1) j = _
        rw [if_pos hc]
      rw [e] at hn hq
      have hn1 := Nat.le_trans (ws_n_mapsL u j (ws_put s (mp (fun k => u (16 * i + k)) 16) 16) (i + 1)) hn
      rw [ws_n_put] at hn1
      rw [show (16 : Int32) = nI 16 from rfl, pk_mul]
      refine zi_mono (c_mapOf (a := 16 * i) (wd := 1) l d g au (by omega) (by omega)) ?_
      rintro r I2 ⟨rfl, rfl⟩
      refine ⟨_, rfl, ?_⟩
      have em : mp (fun k => an u (16 * i + 1 * k) 1) 16 = mp (fun k => u (16 * i + k)) 16 := mp_congr 16 (fun k _ => by simp [an])
      rw [em]
      have := mp_lt (fun k => u (16 * i + k)) 16
      refine zi_mono (c_mwrite (k := 16) l d g a (by omega) (by decide) hn1) ?_
      rintro r I3 ⟨rfl, z1, z2⟩
      refine ⟨rfl, ?_⟩
      rw [nI_1]
      exact ih (i + 1) _ I3 (by omega) (au.keep z2 (by simp)) z1 hn (fun I4 y1 y2 => hq I4 y1 (zg_trans z2 y2))
theorem c_writeMaps (l : Launch) (d : Nat) {I : zi_I} {s : ws_S} (g : g_Mod K RJ m) (au : a_Us I m u) (a : md_W I m s) (hn : ws_n (sp_maps u s) ≤ 8 * 8000) : zi_C l (zx_rm (d + 1) 0 0) M_Mod_writeMaps [.ref m] K RJ I (fun r I2 => r = none ∧ md_W I2 m (sp_maps u s) ∧ zg m [5, 11] [m + 3] I I2) := by
  have hn1 := Nat.le_trans (ws_n_mapsL u 16 (ws_put s (mp (fun i => an u (16 * i) 16) 16) 16) 0) hn
  rw [ws_n_put] at hn1
  refine zi_of (by decide) (fun α => Nat.le_of_ble_eq_true rfl) (r_Mod_writeMaps_0 l d m g.1 (zi_mono (c_mapOf (a := 0) (wd := 16) l d g au (by omega) (by omega)) ?_))
  rintro r I2 ⟨rfl, rfl⟩
  refine ⟨_, rfl, ?_⟩
  have em : mp (fun i => an u (0 + 16 * i) 16) 16 = mp (fun i => an u (16 * i) 16) 16 := mp_congr 16 (fun k _ => by rw [Nat.zero_add])
  rw [em]
  have := mp_lt (fun i => an u (16 * i) 16) 16
  refine zi_mono (c_mwrite (k := 16) l d g a (by omega) (by decide) hn1) ?_
  rintro r I3 ⟨rfl, z1, z2⟩
  exact ⟨rfl, t_maps17 l d g this (fun i hi => by have := mp_bit (fun i => an u (16 * i) 16) 16 i hi; rw [show 16 - 1 - i = 15 - i by omega] at this; exact this) 16 0 _ I3 (by omega) (au.keep z2 (by simp)) z1 hn (fun I4 y1 y2 => ⟨rfl, y1, zg_trans z2 y2⟩)⟩
end MM
