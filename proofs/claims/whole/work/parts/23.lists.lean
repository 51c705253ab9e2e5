/-! MoveList, BitWriter, more of Row, Block's rows, small ones of Codes. -/
def g_ML (K : zx_Kt) (RJ : zx_RJ) (o : Nat) : Prop := (K.2 o).1 = 14 ∧ RJ.1 o 0 = o + 1 ∧ K.2 (o + 1) = (0, 256)
/-- place k to the front -/
def mv_to (xs : List Nat) (k : Nat) : List Nat := xs.getD k 0 :: (xs.take k ++ xs.drop (k + 1))
theorem mv_len {xs : List Nat} {k : Nat} (h : k < xs.length) : (mv_to xs k).length = xs.length := by
  simp [mv_to]
  omega
theorem mv_get {xs : List Nat} {k : Nat} (h : k < xs.length) (i : Nat) : (mv_to xs k).getD i 0 = if i = 0 then xs.getD k 0 else if i ≤ k then xs.getD (i - 1) 0 else xs.getD i 0 := by
  cases i with
  | zero => simp [mv_to]
  | succ j =>
    rw [if_neg (by omega)]
    simp only [mv_to, List.getD_eq_getElem?_getD, Nat.add_sub_cancel, List.getElem?_cons_succ]
    by_cases hj : j < k
    · rw [if_pos (by omega), List.getElem?_append_left (by simp; omega), List.getElem?_take, if_pos hj]
    · rw [if_neg (by omega), List.getElem?_append_right (by simp; omega), List.getElem?_drop]
      congr 2
      simp
      omega
theorem mv_mem {xs : List Nat} {k b : Nat} (h : k < xs.length) (hb : b ∈ mv_to xs k) : b ∈ xs := by
  rcases List.mem_cons.mp hb with h1 | h1
  · rw [h1, List.getD_eq_getElem?_getD, List.getElem?_eq_getElem h]
    exact List.getElem_mem h
  · rcases List.mem_append.mp h1 with h2 | h2
    · exact List.mem_of_mem_take h2
    · exact List.mem_of_mem_drop h2
section ML
variable {K : zx_Kt} {RJ : zx_RJ} {I : zi_I} {o k : Nat} {xs : List Nat}
theorem c_movePlace (l : Launch) (d : Nat) (g : g_ML K RJ o) (a : a_Row I o 256 xs) (hk : k < xs.length) : zi_C l (zx_rm (d + 1) 0 0) M_MoveList_movePlace [.ref o, .int (nI k)] K RJ I (fun r I2 => r = some (.int (nI (xs.getD k 0))) ∧ a_Row I2 o 256 (mv_to xs k) ∧ zf [o + 1] I I2) := by
  obtain ⟨g1, g2, g3⟩ := g
  obtain ⟨a0, a1, a2, a3⟩ := a
  refine zi_of (by decide) (fun α => Nat.le_of_ble_eq_true rfl) ?_
  refine r_MoveList_movePlace_0 l d o (nI k) g1 g2 (by omega) g3 ⟨fun c => absurd c (nI_pos (by omega)), fun _ => ⟨fun c => ?_, fun c => ?_⟩⟩
  · refine ⟨k, rfl, by omega, 0, 1, k, rfl, rfl, rfl, by omega, by omega, by omega, by rw [a2 k hk], ⟨?_, ?_, ?_, ?_⟩, zf_trans (zf_cpy (by simp)) (zf_u2 (by simp))⟩
    · rw [mv_len hk]
      exact a0
    · rw [mv_len hk, ← a1]
      simp [zx_u2, zi_cpy]
    · intro i hi
      rw [mv_len hk] at hi
      rw [mv_get hk]
      by_cases h0 : i = 0
      · subst h0
        rw [zx_u2_s, if_pos rfl, a2 k hk]
      · rw [zx_u2_k h0, if_neg h0]
        simp only [zi_cpy, if_pos]
        by_cases h1 : i ≤ k
        · rw [pk_cpy_in (by omega) (by omega), if_pos h1, Nat.zero_add, a2 _ (by omega)]
        · rw [pk_cpy_out (by omega), if_neg h1, a2 _ hi]
    · exact fun b hb => a3 b (mv_mem hk hb)
  · rw [a1, nI_ltI (by omega) (by omega)] at c
    exact absurd hk c
theorem t_moveValue (l : Launch) (d : Nat) {v : Nat} {Q : zi_Q} (g : g_ML K RJ o) (a : a_Row I o 256 xs) (hk : k < xs.length) (h1 : xs.getD k 0 = v) (h2 : ∀ j, j < k → xs.getD j 0 ≠ v) (hv : v < 256)
    (q : ∀ I2, a_Row I2 o 256 (mv_to xs k) → zf [o + 1] I I2 → Q (some (.int (nI k))) I2) :
    ∀ j m, m + j = k → zi_X l (zx_rm (d + 2) 0 0) M_MoveList_moveValue K RJ Q 2 [(0, .ref o), (1, .int (nI v)), (2, .int (nI m))] [] I := by
  have a' := a
  obtain ⟨a0, a1, a2, a3⟩ := a
  intro j
  induction j with
  | zero =>
    intro m hm
    obtain rfl : m = k := by omega
    have hc : zi_C l (zx_rm (d + 1) 0 0) M_MoveList_movePlace [.ref o, .int (nI m)] K RJ I (fun r I2 => ∃ v3, r = some (.int v3) ∧ Q (some (.int (nI m))) I2) := zi_mono (c_movePlace l d g a' hk) (by
      rintro r I2 ⟨rfl, z1, z2⟩
      exact ⟨_, rfl, q I2 z1 z2⟩)
    refine r_MoveList_moveValue_2 l (d + 1) o _ _ g.1 g.2.1 (by omega) g.2.2 ⟨fun _ => hc, fun _ => ⟨m, rfl, by omega, fun _ => hc, fun c => ?_⟩⟩
    rw [a2 m hk, h1] at c
    exact absurd rfl c
  | succ j ih =>
    intro m hm
    refine r_MoveList_moveValue_2 l (d + 1) o _ _ g.1 g.2.1 (by omega) g.2.2 ⟨fun c => ?_, fun _ => ⟨m, rfl, by omega, fun c => ?_, fun _ => ?_⟩⟩
    · rw [a1, show (1 : Int32) = nI 1 from rfl, pk_sub (by omega), nI_leI (by omega) (by omega)] at c
      omega
    · have := a'.lt m
      rw [a2 m (by omega), nI_eq (by omega) (by omega)] at c
      exact absurd c (h2 m (by omega))
    · rw [nI_1]
      exact ih (m + 1) (by omega)
theorem c_moveValue (l : Launch) (d : Nat) {v : Nat} (g : g_ML K RJ o) (a : a_Row I o 256 xs) (hk : k < xs.length) (h1 : xs.getD k 0 = v) (h2 : ∀ j, j < k → xs.getD j 0 ≠ v) (hv : v < 256) : zi_C l (zx_rm (d + 2) 0 0) M_MoveList_moveValue [.ref o, .int (nI v)] K RJ I (fun r I2 => r = some (.int (nI k)) ∧ a_Row I2 o 256 (mv_to xs k) ∧ zf [o + 1] I I2) :=
  zi_of (by decide) (fun α => Nat.le_of_ble_eq_true rfl) (r_MoveList_moveValue_0 l (d + 1) o _ (t_moveValue l d g a hk h1 h2 hv (fun I2 z1 z2 => ⟨rfl, z1, z2⟩) k 0 (by omega)))
theorem t_setToNumbers (l : Launch) (d : Nat) {m : Nat} {Q : zi_Q} (g : g_ML K RJ o) (hm : m ≤ 256) (x : Int32)
    (q : ∀ I2, a_Row I2 o 256 (List.range m) → zf [o, o + 1] I I2 → Q none I2) :
    ∀ j k, k + j = m → ∀ J, J o 1 = nI m → (∀ i, i < k → J (o + 1) i = nI i) → zf [o, o + 1] I J → zi_X l (zx_rm (d + 1) 0 0) M_MoveList_setToNumbers K RJ Q 15 [(0, .ref o), (1, .int x), (2, .int (nI k))] [] J := by
  intro j
  induction j with
  | zero =>
    intro k hk J h1 h2 h3
    obtain rfl : k = m := by omega
    refine r_MoveList_setToNumbers_15 l d o _ _ g.1 g.2.1 (by omega) g.2.2 ⟨fun _ => q J ⟨?_, ?_, ?_, ?_⟩ h3, fun c => ?_⟩
    · simpa using hm
    · rw [List.length_range]
      exact h1
    · intro i hi
      rw [List.length_range] at hi
      rw [h2 i hi]
      simp [List.getD_eq_getElem?_getD, hi]
    · intro b hb
      have := List.mem_range.mp hb
      omega
    · rw [h1] at c
      exact absurd (nI_le (Nat.le_refl _) (by omega)) c
  | succ j ih =>
    intro k hk J h1 h2 h3
    refine r_MoveList_setToNumbers_15 l d o _ _ g.1 g.2.1 (by omega) g.2.2 ⟨fun c => ?_, fun _ => ⟨k, rfl, by omega, ?_⟩⟩
    · rw [h1, nI_leI (by omega) (by omega)] at c
      omega
    · rw [nI_1]
      refine ih (k + 1) (by omega) _ ?_ ?_ (zf_trans h3 (zf_u2 (by simp)))
      · rw [zx_u2_ne (by omega)]
        exact h1
      · intro i hi
        by_cases hi2 : i = k
        · subst hi2
          rw [zx_u2_s]
        · rw [zx_u2_k hi2]
          exact h2 i (by omega)
theorem zi_minN {a b : Nat} (ha : a < 2 ^ 31) (hb : b < 2 ^ 31) : zi_minv (nI a) (nI b) = nI (min a b) := by
  unfold zi_minv
  by_cases h : b < a
  · rw [if_pos (nI_lt h ha), Nat.min_eq_right (by omega)]
  · rw [if_neg (by rw [nI_ltI hb ha]; exact h), Nat.min_eq_left (by omega)]
theorem c_setToNumbers (l : Launch) (d : Nat) {m : Nat} (g : g_ML K RJ o) (hm : m ≤ 256) : zi_C l (zx_rm (d + 1) 0 0) M_MoveList_setToNumbers [.ref o, .int (nI m)] K RJ I (fun r I2 => r = none ∧ a_Row I2 o 256 (List.range m) ∧ zf [o, o + 1] I I2) := by
  refine zi_of (by decide) (fun α => Nat.le_of_ble_eq_true rfl) (r_MoveList_setToNumbers_0 l d o _ g.1 g.2.1 (by omega) g.2.2 ?_)
  rw [zi_minN (by omega) (by omega), Nat.min_eq_left hm]
  exact t_setToNumbers l d g hm _ (fun I2 z1 z2 => ⟨rfl, z1, z2⟩) m 0 (by omega) _ zx_u2_s (fun i hi => absurd hi (Nat.not_lt_zero _)) (zf_u2 (by simp))
theorem c_ML_setTo (l : Launch) (d : Nat) {q m : Nat} (g : g_ML K RJ o) (kq : K.2 q = (0, 256)) (hne : q ≠ o ∧ q ≠ o + 1) (hm : xs.length ≤ 256) (hx : ∀ i, i < xs.length → I q i = nI (xs.getD i 0)) (hb : ∀ b ∈ xs, b < 256) : zi_C l (zx_rm (d + 1) 0 0) M_MoveList_setTo [.ref o, .ref q, .int (nI xs.length)] K RJ I (fun r I2 => r = none ∧ a_Row I2 o 256 xs ∧ zf [o, o + 1] I I2) := by
  refine zi_of (by decide) (fun α => Nat.le_of_ble_eq_true rfl) (r_MoveList_setTo_0 l d o q _ kq g.1 g.2.1 (by omega) g.2.2 ?_)
  rw [zi_minN (by omega) (by omega), zi_minN (by omega) (by omega), show min xs.length (min 256 256) = xs.length by omega]
  refine ⟨0, 0, xs.length, rfl, rfl, rfl, by omega, by omega, rfl, ⟨hm, ?_, ?_, hb⟩, zf_trans (zf_u2 (by simp)) (zf_cpy (by simp))⟩
  · simp [zi_cpy, zx_u2]
  · intro i hi
    simp only [zi_cpy, if_pos]
    rw [pk_cpy_in (by omega) (by omega), zx_u2_ne (by omega), ← hx i hi]
    simp
end ML
section CD
variable {K : zx_Kt} {RJ : zx_RJ} {I : zi_I}
theorem c_isLength (l : Launch) (d : Nat) {x : Int32} : zi_C l (zx_rm d 0 0) M_Codes_isLength [.int x] K RJ I (fun r I2 => r = some (.int (if 1 ≤ x ∧ x ≤ 12 then 1 else 0)) ∧ I2 = I) := by
  refine zi_of (by decide) (fun α => Nat.le_of_ble_eq_true rfl) (r_Codes_isLength_0 l d x ⟨fun c => ⟨?_, rfl⟩, fun c => ⟨fun c2 => ⟨?_, rfl⟩, fun c2 => ⟨?_, rfl⟩⟩⟩)
  · rw [if_neg (fun h => absurd h.1 (Int32.not_le.mpr c))]
  · rw [if_neg (fun h => absurd h.2 (Int32.not_le.mpr c2))]
  · rw [if_pos ⟨Int32.not_lt.mp c, Int32.not_lt.mp c2⟩]
theorem zb_mask : ∀ j, j < 31 → ((1 : Int32) <<< (nI j &&& 31)) - 1 = nI (2 ^ j - 1) := by decide +kernel
theorem c_mask (l : Launch) (d : Nat) {j : Nat} (hj : j < 31) : zi_C l (zx_rm d 0 0) M_Codes_mask [.int (nI j)] K RJ I (fun r I2 => r = some (.int (nI (2 ^ j - 1))) ∧ I2 = I) :=
  zi_of (by decide) (fun α => Nat.le_of_ble_eq_true rfl) (r_Codes_mask_0 l d _ ⟨by rw [zb_mask j hj], rfl⟩)
end CD
