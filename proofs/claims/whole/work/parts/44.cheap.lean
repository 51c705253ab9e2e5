/-! The class picks tables. -/
def pc_pk (sy : Nat → Nat) (y n T : Nat) : Nat → Nat → Nat
  | 0 => fun g => g % T
  | r + 1 => fun g => pc_best (fun t => pc_cost (hf_len n (pc_w sy (pc_pk sy y n T r) y t)) sy y g) (T - 1)
def pc_ln (sy : Nat → Nat) (y n T r t : Nat) : Nat → Nat := hf_len n (pc_w sy (pc_pk sy y n T r) y t)
def pc_T (G : Nat) : Nat := if G ≤ 4 then 2 else 3
theorem pc_pk_lt {sy : Nat → Nat} {y n T : Nat} (hT : 0 < T) : ∀ r g, pc_pk sy y n T r g < T
  | 0, g => Nat.mod_lt _ hT
  | r + 1, g => by
    have := pc_best_le (fun t => pc_cost (hf_len n (pc_w sy (pc_pk sy y n T r) y t)) sy y g) (T - 1)
    show pc_best (fun t => pc_cost (hf_len n (pc_w sy (pc_pk sy y n T r) y t)) sy y g) (T - 1) < T
    omega
theorem pc_ln_le {sy : Nat → Nat} {y n T r t s : Nat} (hn : 2 ≤ n) (hn2 : n ≤ 258) (hy : y + n < 144) (hs : s < n) : pc_ln sy y n T r t s ≤ 9 :=
  hf_len_le hn hn2 (fun k _ => pc_w_ge _ _ _ _ _) rfl (Nat.lt_of_le_of_lt (pc_w_sum _ _ _ _ _) hy) hs
section CH
variable {K : zx_Kt} {RJ : zx_RJ} {o b y n : Nat} {sy : Nat → Nat}
theorem t_cost (l : Launch) (d : Nat) {I : zi_I} {t gr : Nat} {x2 : Int32} {f : Nat → Nat} {Q : zi_Q} (gb : g_Block K RJ b) (ht : t < 4) (hgr : gr < 2 ^ 20) (hy : y ≤ 65) (hn : n ≤ 258) (hs : ∀ k, k < y → sy k < n) (a1 : a_Sy I b y sy) (hf : ∀ s, s < n → I (b + 6 + t) s = nI (f s)) (q : Q (some (.int (nI (pc_cost f sy y gr)))) I) :
    ∀ j i, i + j = min y (8 * gr + 8) - 8 * gr → zi_X l (zx_rm (d + 1) 0 0) M_Picker_cost K RJ Q 24 [(0, .ref o), (1, .ref b), (2, .int x2), (3, .int (nI t)), (4, .int (nI (min y (8 * gr + 8)))), (5, .int (nI (pc_c f sy (8 * gr) i))), (6, .int (nI (8 * gr + i)))] [] I := by
  intro j
  induction j with
  | zero =>
    intro i hi
    refine r_Picker_cost_24 l d o b _ _ _ _ _ gb.k gb.le.1 (by omega) gb.le.2 gb.sy.1 (by omega) gb.sy.2 ⟨fun _ => ?_, fun c => ?_⟩
    · obtain rfl : i = min y (8 * gr + 8) - 8 * gr := by omega
      exact q
    · rw [nI_leI (by omega) (by omega)] at c
      omega
  | succ j ih =>
    intro i hi
    have hk : 8 * gr + i < y := by omega
    have hsk := hs _ hk
    refine r_Picker_cost_24 l d o b _ _ _ _ _ gb.k gb.le.1 (by omega) gb.le.2 gb.sy.1 (by omega) gb.sy.2 ⟨fun c => ?_, fun _ => ⟨t, rfl, ht, b + 6 + t, (gb.ls ht).1, by omega, 8 * gr + i, rfl, by omega, 258, (gb.ls ht).2, sy (8 * gr + i), a1.2 _ hk, by omega, ?_⟩⟩
    · rw [nI_leI (by omega) (by omega)] at c
      omega
    · rw [hf _ hsk, nI_add, nI_1]
      exact ih (i + 1) (by omega)
theorem c_cost (l : Launch) (d : Nat) {I : zi_I} {t gr : Nat} {f : Nat → Nat} (gb : g_Block K RJ b) (ht : t < 4) (hgr : gr < 2 ^ 20) (hy : y ≤ 65) (hn : n ≤ 258) (hs : ∀ k, k < y → sy k < n) (a1 : a_Sy I b y sy) (hf : ∀ s, s < n → I (b + 6 + t) s = nI (f s)) :
    zi_C l (zx_rm (d + 1) 0 0) M_Picker_cost [.ref o, .ref b, .int (nI gr), .int (nI t)] K RJ I (fun r I2 => r = some (.int (nI (pc_cost f sy y gr))) ∧ I2 = I) := by
  refine zi_of (by decide) (fun α => Nat.le_of_ble_eq_true rfl) (r_Picker_cost_0 l d o b _ _ gb.k ?_)
  have e1 : zi_minv (I b 7) (8 * (nI gr + 1)) = nI (min y (8 * gr + 8)) := by
    rw [a1.1, nI_1, show (8 : Int32) = nI 8 from rfl, pk_mul, zi_minN (by omega) (by omega), show 8 * (gr + 1) = 8 * gr + 8 by omega]
  have e2 : (8 : Int32) * nI gr = nI (8 * gr) := by rw [show (8 : Int32) = nI 8 from rfl, pk_mul]
  rw [e1, e2]
  exact t_cost (o := o) (y := y) (n := n) (sy := sy) (t := t) (gr := gr) (f := f) (Q := fun r I2 => r = some (.int (nI (pc_cost f sy y gr))) ∧ I2 = I) l d gb ht hgr hy hn hs a1 hf ⟨rfl, rfl⟩ _ 0 (Nat.zero_add _)
theorem pc_cost_le {f : Nat → Nat} {gr B : Nat} (h : ∀ k, k < y → f (sy k) ≤ B) : pc_cost f sy y gr ≤ 8 * B := by
  have h1 := pc_c_le (ln := f) (sy := sy) (k := 8 * gr) (B := B) (min y (8 * gr + 8) - 8 * gr) (fun i hi => h _ (by omega))
  have h2 : (min y (8 * gr + 8) - 8 * gr) * B ≤ 8 * B := Nat.mul_le_mul_right _ (by omega)
  exact Nat.le_trans h1 h2
theorem t_cheap (l : Launch) (d : Nat) {I : zi_I} {T gr : Nat} {fs : Nat → Nat → Nat} {Q : zi_Q} (g0 : (K.2 o).1 = 15) (gb : g_Block K RJ b) (hT : T ≤ 4) (hgr : gr < 2 ^ 20) (hy : y ≤ 65) (hn : n ≤ 258) (hs : ∀ k, k < y → sy k < n) (a1 : a_Sy I b y sy) (h9 : I b 9 = nI T) (hf : ∀ t, t < T → ∀ s, s < n → I (b + 6 + t) s = nI (fs t s)) (hfl : ∀ t, t < T → ∀ s, s < n → fs t s ≤ 2 ^ 10) (q : Q (some (.int (nI (pc_best (fun t => pc_cost (fs t) sy y gr) (T - 1))))) I) :
    ∀ j t, t + j = T - 1 → zi_X l (zx_rm (d + 2) 0 0) M_Picker_cheapest K RJ Q 5 [(0, .ref o), (1, .ref b), (2, .int (nI gr)), (3, .int (nI (pc_best (fun t => pc_cost (fs t) sy y gr) t))), (4, .int (nI (t + 1)))] [] I := by
  intro j
  induction j with
  | zero =>
    intro t ht
    refine r_Picker_cheapest_5 l (d + 1) o b _ _ _ gb.k g0 ⟨fun _ => ?_, fun c => ?_⟩
    · obtain rfl : t = T - 1 := by omega
      exact q
    · rw [h9, nI_leI (by omega) (by omega)] at c
      omega
  | succ j ih =>
    intro t ht
    have hb := pc_best_le (fun t => pc_cost (fs t) sy y gr) t
    have b1 := pc_cost_le (sy := sy) (y := y) (gr := gr) (f := fs (t + 1)) (B := 2 ^ 10) (fun k hk => hfl _ (by omega) _ (hs k hk))
    have b2 := pc_cost_le (sy := sy) (y := y) (gr := gr) (f := fs (pc_best (fun t => pc_cost (fs t) sy y gr) t)) (B := 2 ^ 10) (fun k hk => hfl _ (by omega) _ (hs k hk))
    refine r_Picker_cheapest_5 l (d + 1) o b _ _ _ gb.k g0 ⟨fun c => ?_, fun _ => zi_mono (c_cost (y := y) (n := n) (sy := sy) (f := fs (t + 1)) l d gb (by omega) hgr hy hn hs a1 (hf _ (by omega))) ?_⟩
    · rw [h9, nI_leI (by omega) (by omega)] at c
      omega
    · rintro r I2 ⟨rfl, rfl⟩
      refine ⟨_, rfl, zi_mono (c_cost (y := y) (n := n) (sy := sy) (f := fs (pc_best (fun t => pc_cost (fs t) sy y gr) t)) l d gb (by omega) hgr hy hn hs a1 (hf _ (by omega))) ?_⟩
      rintro r I3 ⟨rfl, rfl⟩
      have ih := ih (t + 1) (by omega)
      have e : pc_best (fun t => pc_cost (fs t) sy y gr) (t + 1) = if pc_cost (fs (t + 1)) sy y gr < pc_cost (fs (pc_best (fun t => pc_cost (fs t) sy y gr) t)) sy y gr then t + 1 else pc_best (fun t => pc_cost (fs t) sy y gr) t := rfl
      refine ⟨_, rfl, fun c => ?_, fun c => ?_⟩
      · rw [nI_leI (by omega) (by omega)] at c
        rw [e, if_neg (by omega)] at ih
        rw [nI_1]
        exact ih
      · rw [nI_leI (by omega) (by omega)] at c
        rw [e, if_pos (by omega)] at ih
        rw [nI_1]
        exact ih
theorem c_cheapest (l : Launch) (d : Nat) {I : zi_I} {T gr : Nat} {fs : Nat → Nat → Nat} (g0 : (K.2 o).1 = 15) (gb : g_Block K RJ b) (hT0 : 0 < T) (hT : T ≤ 4) (hgr : gr < 2 ^ 20) (hy : y ≤ 65) (hn : n ≤ 258) (hs : ∀ k, k < y → sy k < n) (a1 : a_Sy I b y sy) (h9 : I b 9 = nI T) (hf : ∀ t, t < T → ∀ s, s < n → I (b + 6 + t) s = nI (fs t s)) (hfl : ∀ t, t < T → ∀ s, s < n → fs t s ≤ 2 ^ 10) :
    zi_C l (zx_rm (d + 2) 0 0) M_Picker_cheapest [.ref o, .ref b, .int (nI gr)] K RJ I (fun r I2 => r = some (.int (nI (pc_best (fun t => pc_cost (fs t) sy y gr) (T - 1)))) ∧ I2 = I) :=
  zi_of (by decide) (fun α => Nat.le_of_ble_eq_true rfl) (r_Picker_cheapest_0 l (d + 1) o b _ (t_cheap (y := y) (n := n) (sy := sy) (fs := fs) (T := T) (Q := fun r I2 => r = some (.int (nI (pc_best (fun t => pc_cost (fs t) sy y gr) (T - 1)))) ∧ I2 = I) l d g0 gb hT hgr hy hn hs a1 h9 hf hfl ⟨rfl, rfl⟩ (T - 1) 0 (by omega)))
end CH
