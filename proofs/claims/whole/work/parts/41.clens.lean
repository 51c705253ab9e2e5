/-! The class's LENGTHS. -/
section TL
variable {K : zx_Kt} {RJ : zx_RJ} {o n : Nat} {w0 : Nat → Nat}
theorem c_joinTrees (l : Launch) (d : Nat) {S : Nat} {I : zi_I} {f : Nat → Nat} (g : g_Trees K RJ o) (hn0 : 2 ≤ n) (hn : n ≤ 66) (hS : hf_f w0 (fun _ => 0) n = S) (hS2 : S < 2 ^ 20) (hf : hq_ord w0 f n) (h4 : I o 4 = nI n) (cf : ∀ j, j < n → I (o + 4) j = nI (f j)) (hw : ∀ k, k < n → I (o + 1) k = nI (w0 k)) :
    zi_C l (zx_rm (d + 1) 0 0) M_Trees_joinTrees [.ref o] K RJ I (fun r I2 => r = none ∧ (∃ a b, a_Joins I2 o n w0 f (n - 1) a b) ∧ zg o [5, 6] [o + 1, o + 2] I I2) := by
  refine zi_of (by decide) (fun α => Nat.le_of_ble_eq_true rfl) (r_Trees_joinTrees_0 l d o g.1 ?_)
  rw [h4]
  refine t_jt18 (w0 := w0) (f := f) (n := n) l d g hn0 hn hS hS2 hf (n - 1) 0 _ 0 n (by omega) ⟨?_, ?_, ?_, fun j hj => ?_, fun k hk => ?_, fun k hk h0 => absurd rfl h0, by omega, by omega, by omega, fun k hk => ⟨fun _ => ?_, fun _ => rfl⟩⟩ (fun I2 a2 b2 y1 y2 => ⟨rfl, ⟨a2, b2, y1⟩, zg_trans (zg_trans (zg_fld (by simp)) (zg_fld (by simp))) y2⟩)
  · rw [zx_u2_k (by decide), zx_u2_k (by decide)]
    exact h4
  · rw [zx_u2_k (by decide), zx_u2_s]
    rfl
  · rw [zx_u2_s]
  · rw [zx_u2_ne (by omega), zx_u2_ne (by omega)]
    exact cf j hj
  · rw [zx_u2_ne (by omega), zx_u2_ne (by omega)]
    exact hw k hk
  · obtain ⟨j, hj, he⟩ := hf.2.2 k (by omega)
    exact Or.inl ⟨j, by omega, hj, he⟩
theorem hf_v_m1 (c : Nat) : nI c + (-1) = hf_v c := by
  cases c with
  | zero => rfl
  | succ c => rw [pk_m1]; rfl
theorem t_md20 (l : Launch) (d : Nat) {x1 : Int32} {into D : Nat → Nat} {Q : zi_Q} (g : g_Trees K RJ o) (hn0 : 2 ≤ n) (hn : n ≤ 66) (hi : ∀ k, k < 2 * n - 2 → k < into k ∧ into k ≤ 2 * n - 2) (hD : ∀ k, k < 2 * n - 2 → D k = D (into k) + 1) :
    ∀ (c : Nat) (I : zi_I), c ≤ 2 * n - 2 → (∀ k, k < 2 * n - 2 → I (o + 2) k = nI (into k)) → (∀ k, c ≤ k → k ≤ 2 * n - 2 → I (o + 3) k = nI (D k)) →
      (∀ I2, (∀ k, k ≤ 2 * n - 2 → I2 (o + 3) k = nI (D k)) → zf [o + 3] I I2 → Q none I2) →
      zi_X l (zx_rm d 0 0) M_Trees_measureDepths K RJ Q 20 [(0, .ref o), (1, .int x1), (2, .int (hf_v c))] [] I := by
  obtain ⟨g0, g1, g2, g3, g4⟩ := g
  intro c
  induction c with
  | zero =>
    intro I hc hp hd q
    exact r_Trees_measureDepths_20 l d o _ _ g0 g3.1 (by omega) g2.1 (by omega) g2.2 g3.2 ⟨fun _ => q I (fun k hk => hd k (by omega) hk) zf_refl, fun c => absurd (by decide) c⟩
  | succ c ih =>
    intro I hc hp hd q
    have hic := hi c (by omega)
    refine r_Trees_measureDepths_20 l d o _ _ g0 g3.1 (by omega) g2.1 (by omega) g2.2 g3.2 ⟨fun c1 => absurd c1 (nI_pos (n := c) (by omega)), fun _ => ⟨c, rfl, by omega, into c, hp c (by omega), by omega, c, rfl, by omega, ?_⟩⟩
    rw [hd (into c) (by omega) hic.2, nI_1, ← hD c (by omega), show hf_v (c + 1) = nI c from rfl, hf_v_m1]
    refine ih _ (by omega) (fun k hk => by rw [zx_u2_ne (by omega)]; exact hp k hk) (fun k h1 h2 => ?_) (fun I2 y1 y2 => q I2 y1 (zf_trans (zf_u2 (by simp)) y2))
    by_cases e : k = c
    · rw [e, zx_u2_s]
    · rw [zx_u2_k e]
      exact hd k (by omega) h2
theorem c_measureDepths (l : Launch) (d : Nat) {I : zi_I} {into D : Nat → Nat} (g : g_Trees K RJ o) (hn0 : 2 ≤ n) (hn : n ≤ 66) (h4 : I o 4 = nI n) (hi : ∀ k, k < 2 * n - 2 → k < into k ∧ into k ≤ 2 * n - 2) (hD : ∀ k, k < 2 * n - 2 → D k = D (into k) + 1) (hD0 : D (2 * n - 2) = 0) (hp : ∀ k, k < 2 * n - 2 → I (o + 2) k = nI (into k)) :
    zi_C l (zx_rm d 0 0) M_Trees_measureDepths [.ref o] K RJ I (fun r I2 => r = none ∧ (∀ k, k ≤ 2 * n - 2 → I2 (o + 3) k = nI (D k)) ∧ zf [o + 3] I I2) := by
  have e2 : (2 : Int32) * nI n - 2 = nI (2 * n - 2) := by rw [show (2 : Int32) = nI 2 from rfl, pk_mul, pk_sub (by omega)]
  have e3 : nI (2 * n - 2) - 1 = hf_v (2 * n - 2) := by rw [← zi_m1, hf_v_m1]
  refine zi_of (by decide) (fun α => Nat.le_of_ble_eq_true rfl) (r_Trees_measureDepths_0 l d o g.1 g.2.2.2.1.1 (by omega) g.2.2.2.1.2 ⟨2 * n - 2, by rw [h4, e2], by omega, ?_⟩)
  rw [h4, e2, e3]
  refine t_md20 (into := into) (D := D) (n := n) l d g hn0 hn hi hD (2 * n - 2) _ (Nat.le_refl _) (fun k hk => by rw [zx_u2_ne (by omega)]; exact hp k hk) (fun k h1 h2 => ?_) (fun I2 y1 y2 => ⟨rfl, y1, zf_trans (zf_u2 (by simp)) y2⟩)
  obtain rfl : k = 2 * n - 2 := by omega
  rw [zx_u2_s, hD0]
  rfl
/-- at the end only the last tree is left -/
theorem hf_root {S : Nat} (hn0 : 2 ≤ n) (hn : n ≤ 66) (hS : hf_f w0 (fun _ => 0) n = S) : (hf_st n w0 (n - 1)).2 (2 * n - 2) = 0 ∧ ∀ k, k < 2 * n - 2 → (hf_st n w0 (n - 1)).2 k ≠ 0 := by
  have ok := hf_st_ok (w0 := w0) (n := n) (by omega) (by omega) hS (n - 1) (by omega)
  have hup := hf_up (n := n) (w0 := w0) (by omega) (by omega) (n - 1) (by omega) (2 * n - 2)
  have h0 : (hf_st n w0 (n - 1)).2 (2 * n - 2) = 0 := by omega
  refine ⟨h0, fun k hk => ?_⟩
  have e1 := hf_c_up (into := (hf_st n w0 (n - 1)).2) (a := 2 * n - 2) (x := 1) (by decide) h0 (n + (n - 1)) (by omega)
  rw [ok.1] at e1
  have e3 := hf_c_one _ (show hf_c (va_up (hf_st n w0 (n - 1)).2 (2 * n - 2) 1) (n + (n - 1)) = 0 by omega) k (by omega)
  rw [va_up_n (by omega)] at e3
  exact e3
theorem c_findLengths (l : Launch) (d : Nat) {S q p : Nat} {I : zi_I} (g : g_Trees K RJ o) (kq : K.2 q = (0, 66)) (kp : K.2 p = (0, 258)) (hq : q ∉ [o, o + 1, o + 2, o + 3, o + 4]) (hp : p ∉ [o, o + 1, o + 2, o + 3, o + 4]) (hn0 : 2 ≤ n) (hn : n ≤ 66) (hS : hf_f w0 (fun _ => 0) n = S) (hS2 : S < 2 ^ 20) (hw : ∀ k, k < n → I q k = nI (w0 k)) :
    zi_C l (zx_rm (d + 2) 0 0) M_Trees_findLengths [.ref o, .ref q, .int (nI n), .ref p] K RJ I (fun r I2 => r = none ∧ (∀ i, I2 p i = if i < n then nI (hf_len n w0 i) else I p i) ∧ zf [o, o + 1, o + 2, o + 3, o + 4, p] I I2) := by
  have em : zi_minv (zi_minv (nI n) 66) (zi_minv (nI 66) (nI 258)) = nI n := by
    rw [show (66 : Int32) = nI 66 from rfl, zi_minN (by omega) (by omega), zi_minN (by omega) (by omega), zi_minN (by omega) (by omega)]
    congr 1
    omega
  have hwl : ∀ k, k < n → w0 k < 2 ^ 20 := fun k hk => by
    have := hf_f_le (w := w0) (into := fun _ => 0) (a := k) rfl n hk
    omega
  have hup := hf_up (n := n) (w0 := w0) (by omega) (by omega) (n - 1) (by omega)
  have hroot := hf_root (w0 := w0) hn0 hn hS
  have hqo : q ≠ o ∧ q ≠ o + 1 ∧ q ≠ o + 2 ∧ q ≠ o + 3 ∧ q ≠ o + 4 := by simpa using hq
  have hpo : p ≠ o ∧ p ≠ o + 1 ∧ p ≠ o + 2 ∧ p ≠ o + 3 ∧ p ≠ o + 4 := by simpa using hp
  refine zi_of (by decide) (fun α => Nat.le_of_ble_eq_true rfl) (r_Trees_findLengths_0 l (d + 1) o q _ p kq kp g.1 g.2.1.1 (by omega) g.2.1.2 g.2.2.2.1.1 (by omega) g.2.2.2.1.2 ⟨fun _ => ⟨0, 0, n, rfl, rfl, em, by omega, by omega, ?_⟩, fun c => ?_⟩)
  · rw [em]
    have y4 : zi_cpy (zx_u2 I o 4 (nI n)) q (o + 1) 0 0 n o 4 = nI n := by
      unfold zi_cpy
      rw [if_neg (by omega), zx_u2_s]
    have yw : ∀ k, k < n → zi_cpy (zx_u2 I o 4 (nI n)) q (o + 1) 0 0 n (o + 1) k = nI (w0 k) := fun k hk => by
      unfold zi_cpy
      rw [if_pos rfl, pk_cpy_in (by omega) (by omega), zx_u2_ne (by omega), show 0 + (k - 0) = k by omega]
      exact hw k hk
    have yf : zf [o, o + 1, o + 2, o + 3, o + 4, p] I (zi_cpy (zx_u2 I o 4 (nI n)) q (o + 1) 0 0 n) := zf_trans (zf_u2 (by simp)) (zf_cpy (by simp))
    refine zi_mono (c_sortSymbols (n := n) (w := w0) l (d + 1) g hn y4 (fun k hk => ⟨yw k hk, hwl k hk⟩)) ?_
    rintro r I2 ⟨rfl, f, hf, cf, z2⟩
    refine ⟨rfl, zi_mono (c_joinTrees (n := n) (w0 := w0) (f := f) l d g hn0 hn hS hS2 hf (by rw [z2 o (by simp)]; exact y4) cf (fun k hk => by rw [z2 (o + 1) (by simp)]; exact yw k hk)) ?_⟩
    rintro r I3 ⟨rfl, ⟨a, b, J⟩, z3⟩
    refine ⟨rfl, zi_mono (c_measureDepths (n := n) (into := (hf_st n w0 (n - 1)).2) (D := hf_d (hf_st n w0 (n - 1)).2 (2 * n)) l (d + 1) g hn0 hn J.1 (fun k hk => ?_) (fun k hk => ?_) ?_ (fun k hk => J.2.2.2.2.2.1 k (by omega) (hroot.2 k hk))) ?_⟩
    · have x1 := hup k
      have x2 := hroot.2 k hk
      omega
    · have x1 := hup k
      have x2 := hroot.2 k hk
      have e1 : hf_d (hf_st n w0 (n - 1)).2 (2 * n - 1 + 1) k = hf_d (hf_st n w0 (n - 1)).2 (2 * n - 1) ((hf_st n w0 (n - 1)).2 k) + 1 := by
        show (if (hf_st n w0 (n - 1)).2 k = 0 then 0 else _) = _
        rw [if_neg x2]
      have e2 := hf_d_more (into := (hf_st n w0 (n - 1)).2) (T := 2 * n - 1) (fun k hk => by
        have := hup k
        omega) (2 * n - 1) ((hf_st n w0 (n - 1)).2 k) (by omega) (by omega)
      rw [show 2 * n - 1 + 1 = 2 * n by omega] at e1 e2
      rw [e1, ← e2]
    · have e1 : hf_d (hf_st n w0 (n - 1)).2 (2 * n - 1 + 1) (2 * n - 2) = 0 := by
        show (if (hf_st n w0 (n - 1)).2 (2 * n - 2) = 0 then 0 else _) = 0
        rw [if_pos hroot.1]
      rw [show 2 * n - 1 + 1 = 2 * n by omega] at e1
      exact e1
    · rintro r I4 ⟨rfl, hd, z4⟩
      refine ⟨rfl, 0, 0, n, rfl, rfl, by rw [z4 o (by simp)]; exact J.1, by omega, by omega, rfl, fun i => ?_, ?_⟩
      · unfold zi_cpy
        rw [if_pos rfl]
        by_cases h : i < n
        · rw [if_pos h, pk_cpy_in (by omega) (by omega), show 0 + (i - 0) = i by omega, hd i (by omega)]
          rfl
        · rw [if_neg h, pk_cpy_out (by omega), z4 p (by simp [hpo]), zg_cell z3 (by omega) (by simp [hpo]), z2 p (by simp [hpo])]
          unfold zi_cpy
          rw [if_neg (by omega), zx_u2_ne (by omega)]
      · refine zf_trans (zf_trans (zf_trans (zf_trans yf (zf_mono z2 (by simp))) (zf_mono z3.2 (by simp))) (zf_mono z4 (by simp))) (zf_cpy (by simp))
  · rw [em, show (1 : Int32) = nI 1 from rfl, nI_leI (by omega) (by omega)] at c
    omega
end TL
