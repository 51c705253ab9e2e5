/-! The reference sorts rotations. -/
section MT
variable {K : zx_Kt} {RJ : zx_RJ} {m n : Nat} {f : Nat → Nat}
def a_MSh (I : zi_I) (m n : Nat) (f : Nat → Nat) : Prop := I m 14 = nI n ∧ ∀ i, i < n → I (m + 5) i = nI (f i)
theorem a_MSh.keep {I I2 : zi_I} {F S : List Nat} (a : a_MSh I m n f) (h : zg m F S I I2) (h1 : 14 ∉ F) (h2 : m + 5 ∉ S) : a_MSh I2 m n f := ⟨by rw [h.1 14 h1]; exact a.1, fun k hk => by rw [zg_cell h (by omega) h2]; exact a.2 k hk⟩
theorem t_bf2 (l : Launch) (d : Nat) {I : zi_I} {a c : Nat} {Q : zi_Q} (g : g_Mod K RJ m) (hn : n ≤ 64) (ha : a < 64) (hc : c < 64) (hf : ∀ i, i < n → f i < 256) (as : a_MSh I m n f) (q : Q (some (.int (if so f n a c = true then 1 else 0))) I) :
    ∀ j k, k + j = n → so_l f n a c (decide (a < c)) k j = so f n a c → zi_X l (zx_rm d 0 0) M_Mod_before K RJ Q 2 [(0, .ref m), (1, .int (nI a)), (2, .int (nI c)), (3, .int (nI k))] [] I := by
  intro j
  induction j with
  | zero =>
    intro k hk e
    obtain rfl : k = n := by omega
    have e2 : so f k a c = decide (a < c) := e.symm
    rw [e2] at q
    refine r_Mod_before_2 l d m _ _ _ g.1 g.shortRowR (by omega) g.shortRowK ⟨fun _ => ⟨fun x => ?_, fun x => ?_⟩, fun c => ?_⟩
    · rw [nI_leI (by omega) (by omega)] at x
      rw [if_neg (by rw [decide_eq_true_iff]; omega)] at q
      exact q
    · rw [nI_leI (by omega) (by omega)] at x
      rw [if_pos (by rw [decide_eq_true_iff]; omega)] at q
      exact q
    · rw [as.1, nI_leI (by omega) (by omega)] at c
      omega
  | succ j ih =>
    intro k hk e
    have m1 := Nat.mod_lt (a + k) (show 0 < n by omega)
    have m2 := Nat.mod_lt (c + k) (show 0 < n by omega)
    have h1 := hf _ m1
    have h2 := hf _ m2
    have e1 : (nI a + nI k) - (nI a + nI k) / I m 14 * I m 14 = nI ((a + k) % n) := by
      rw [as.1, nI_add]
      exact pk_rem (d := n) (by omega) (by omega) (by omega)
    have e2 : (nI c + nI k) - (nI c + nI k) / I m 14 * I m 14 = nI ((c + k) % n) := by
      rw [as.1, nI_add]
      exact pk_rem (d := n) (by omega) (by omega) (by omega)
    have nz : ¬ I m 14 = 0 := by
      rw [as.1, show (0 : Int32) = nI 0 from rfl, nI_eq (by omega) (by omega)]
      omega
    rw [so_l_s] at e
    refine r_Mod_before_2 l d m _ _ _ g.1 g.shortRowR (by omega) g.shortRowK ⟨fun c => ?_, fun _ => ⟨nz, _, e1, by omega, nz, _, e2, by omega, fun x => ?_, fun x => ?_⟩⟩
    · rw [as.1, nI_leI (by omega) (by omega)] at c
      omega
    · rw [as.2 _ m1, as.2 _ m2, nI_eq (by omega) (by omega)] at x
      rw [if_pos x] at e
      rw [nI_1]
      exact ih (k + 1) (by omega) e
    · rw [as.2 _ m1, as.2 _ m2, nI_eq (by omega) (by omega)] at x
      rw [if_neg x] at e
      rw [as.2 _ m1, as.2 _ m2, nI_leI (by omega) (by omega)]
      refine ⟨fun y => ?_, fun y => ?_⟩
      · rw [← e, if_neg (by rw [decide_eq_true_iff]; omega)] at q
        exact q
      · rw [← e, if_pos (by rw [decide_eq_true_iff]; omega)] at q
        exact q
theorem c_before (l : Launch) (d : Nat) {I : zi_I} {a c : Nat} (g : g_Mod K RJ m) (hn : n ≤ 64) (ha : a < 64) (hc : c < 64) (hf : ∀ i, i < n → f i < 256) (as : a_MSh I m n f) :
    zi_C l (zx_rm d 0 0) M_Mod_before [.ref m, .int (nI a), .int (nI c)] K RJ I (fun r I2 => r = some (.int (if so f n a c = true then 1 else 0)) ∧ I2 = I) :=
  zi_of (by decide) (fun α => Nat.le_of_ble_eq_true rfl) (r_Mod_before_0 l d m _ _ (t_bf2 (n := n) (f := f) (Q := fun r I2 => r = some (.int (if so f n a c = true then 1 else 0)) ∧ I2 = I) l d g hn ha hc hf as ⟨rfl, rfl⟩ n 0 (by omega) rfl))
theorem t_ms14 (l : Launch) (d : Nat) {I : zi_I} {i : Nat} {Q : zi_Q} (g : g_Mod K RJ m) (hn : n ≤ 64) (hi : i < n) (hf : ∀ i, i < n → f i < 256) (as : a_MSh I m n f)
    (q : zi_X l (zx_rm (d + 1) 0 0) M_Mod_sort K RJ Q 2 [(0, .ref m), (1, .int (nI i + 1))] [] (zx_u2 (zx_u2 I (m + 6) (so_P f n i) (nI (f ((i + n - 1) % n)))) m 21 (if i = 0 then nI (so_P f n i) else I m 21))) :
    ∀ (j k : Nat), k + j = n → zi_X l (zx_rm (d + 1) 0 0) M_Mod_sort K RJ Q 14 [(0, .ref m), (1, .int (nI i)), (2, .int (nI (so_k f n i k))), (3, .int (nI k))] [] I := by
  have hP := (so_P_lt (f := f) hi).1
  intro j
  induction j with
  | zero =>
    intro k hk
    obtain rfl : k = n := by omega
    have ek : so_k f k i k = so_P f k i := so_k_eq i k
    rw [ek]
    have m1 := Nat.mod_lt (i + k - 1) (show 0 < k by omega)
    have e1 : ((nI i + I m 14) - 1) - ((nI i + I m 14) - 1) / I m 14 * I m 14 = nI ((i + k - 1) % k) := by
      rw [as.1, nI_add, show (1 : Int32) = nI 1 from rfl, pk_sub (by omega)]
      exact pk_rem (d := k) (by omega) (by omega) (by omega)
    have nz : ¬ I m 14 = 0 := by
      rw [as.1, show (0 : Int32) = nI 0 from rfl, nI_eq (by omega) (by omega)]
      omega
    refine r_Mod_sort_14 l d m _ _ _ g.1 g.columnR (by omega) g.shortRowR (by omega) g.shortRowK g.columnK ⟨fun _ => ⟨nz, _, e1, by omega, _, rfl, by omega, fun c => ?_, fun c => ?_⟩, fun c => ?_⟩
    · rw [show (0 : Int32) = nI 0 from rfl, nI_eq (by omega) (by omega)] at c
      rw [if_neg c] at q
      rw [as.2 _ m1]
      exact q
    · rw [show (0 : Int32) = nI 0 from rfl, nI_eq (by omega) (by omega)] at c
      rw [if_pos c] at q
      rw [as.2 _ m1]
      exact q
    · rw [as.1, nI_leI (by omega) (by omega)] at c
      omega
  | succ j ih =>
    intro k hk
    have hkl := so_k_le (f := f) (n := n) i k
    have ih := ih (k + 1) (by omega)
    have es : so_k f n i (k + 1) = so_k f n i k + (if k ≠ i ∧ so f n k i = true then 1 else 0) := rfl
    have e0 : nI (so_k f n i k) + 0 = nI (so_k f n i k) := Int32.add_zero _
    refine r_Mod_sort_14 l d m _ _ _ g.1 g.columnR (by omega) g.shortRowR (by omega) g.shortRowK g.columnK ⟨fun c => ?_, fun _ => ⟨fun c => ?_, fun c => zi_mono (c_before (n := n) (f := f) l d g hn (by omega) (by omega) hf as) ?_⟩⟩
    · rw [as.1, nI_leI (by omega) (by omega)] at c
      omega
    · rw [nI_eq (by omega) (by omega)] at c
      rw [es, if_neg (fun z => z.1 c)] at ih
      rw [e0, nI_1]
      exact ih
    · rw [nI_eq (by omega) (by omega)] at c
      rintro r I2 ⟨rfl, rfl⟩
      refine ⟨_, rfl, fun c2 => ?_, fun c2 => ?_⟩
      · by_cases h : so f n k i = true
        · rw [if_pos h] at c2
          exact absurd c2 (by decide)
        · rw [es, if_neg (fun z => h z.2)] at ih
          rw [e0, nI_1]
          exact ih
      · by_cases h : so f n k i = true
        · rw [es, if_pos ⟨c, h⟩] at ih
          rw [nI_1, nI_1]
          exact ih
        · rw [if_neg h] at c2
          exact absurd rfl c2
theorem t_ms2 (l : Launch) (d : Nat) {Q : zi_Q} (g : g_Mod K RJ m) (hn : n ≤ 64) (hf : ∀ i, i < n → f i < 256) :
    ∀ (j i : Nat) (I : zi_I), i + j = n → a_MSh I m n f → (∀ r, r < i → I (m + 6) (so_P f n r) = nI (f ((r + n - 1) % n))) → (0 < i → I m 21 = nI (so_P f n 0)) →
      (∀ I2, (∀ p, p < n → I2 (m + 6) p = nI ((so_col f n).getD p 0)) → (0 < n → I2 m 21 = nI (so_P f n 0)) → zg m [21] [m + 6] I I2 → Q none I2) →
      zi_X l (zx_rm (d + 1) 0 0) M_Mod_sort K RJ Q 2 [(0, .ref m), (1, .int (nI i))] [] I := by
  intro j
  induction j with
  | zero =>
    intro i I hi as hc ho q
    obtain rfl : i = n := by omega
    refine r_Mod_sort_2 l d m _ g.1 ⟨fun _ => q I (fun p hp => ?_) ho zg_refl, fun c => ?_⟩
    · have h1 := so_P_at (f := f) hp
      have h2 := hc _ (so_L_lt (f := f) (n := i) hp)
      rw [h1] at h2
      rw [h2, so_col_at hp]
    · rw [as.1, nI_leI (by omega) (by omega)] at c
      omega
  | succ j ih =>
    intro i I hi as hc ho q
    refine r_Mod_sort_2 l d m _ g.1 ⟨fun c => ?_, fun _ => ?_⟩
    · rw [as.1, nI_leI (by omega) (by omega)] at c
      omega
    · have z : zg m [21] [m + 6] I (zx_u2 (zx_u2 I (m + 6) (so_P f n i) (nI (f ((i + n - 1) % n)))) m 21 (if i = 0 then nI (so_P f n i) else I m 21)) := zg_trans (zg_arr (by simp) (by omega)) (zg_fld (by simp))
      refine t_ms14 (n := n) (f := f) (i := i) l d g hn (by omega) hf as ?_ n 0 (by omega)
      rw [nI_1]
      refine ih (i + 1) _ (by omega) (as.keep z (by simp) (by simp)) (fun r hr => ?_) (fun _ => ?_) (fun I3 y1 y2 y3 => q I3 y1 y2 (zg_trans z y3))
      · rw [zx_u2_ne (by omega)]
        by_cases e : r = i
        · rw [e, zx_u2_s]
        · rw [zx_u2_k (fun h => e (so_P_inj (f := f) (by omega) (by omega) h))]
          exact hc r (by omega)
      · rw [zx_u2_s]
        by_cases e : i = 0
        · rw [if_pos e, e]
        · rw [if_neg e]
          exact ho (by omega)
theorem c_sort (l : Launch) (d : Nat) {I : zi_I} (g : g_Mod K RJ m) (hn : n ≤ 64) (hf : ∀ i, i < n → f i < 256) (as : a_MSh I m n f) :
    zi_C l (zx_rm (d + 1) 0 0) M_Mod_sort [.ref m] K RJ I (fun r I2 => r = none ∧ (∀ p, p < n → I2 (m + 6) p = nI ((so_col f n).getD p 0)) ∧ (0 < n → I2 m 21 = nI (so_P f n 0)) ∧ zg m [21] [m + 6] I I2) :=
  zi_of (by decide) (fun α => Nat.le_of_ble_eq_true rfl) (r_Mod_sort_0 l d m (t_ms2 (n := n) (f := f) l d g hn hf n 0 I (by omega) as (fun _ h => absurd h (by omega)) (fun h => absurd h (by omega)) (fun I2 y1 y2 y3 => ⟨rfl, y1, y2, y3⟩)))
end MT
