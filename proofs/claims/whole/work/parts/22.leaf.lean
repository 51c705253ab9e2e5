/-! Leaves: BitReader's numbers, MoveList, fill. -/
theorem zx_u2_self {f : Nat → Nat → Int32} {p j : Nat} {v : Int32} (h : f p j = v) : zx_u2 f p j v = f := by
  funext q i
  unfold zx_u2
  by_cases e : q = p ∧ i = j
  · rw [if_pos e, e.1, e.2, h]
  · rw [if_neg e]
theorem zx_u2_u2 {f : Nat → Nat → Int32} {p j : Nat} {v w : Int32} : zx_u2 (zx_u2 f p j v) p j w = zx_u2 f p j w := by
  funext q i
  unfold zx_u2
  by_cases e : q = p ∧ i = j
  · rw [if_pos e, if_pos e]
  · rw [if_neg e, if_neg e, if_neg e]
section LF
variable {K : zx_Kt} {RJ : zx_RJ} {I : zi_I} {o ro n p : Nat} {bs : List Nat}
theorem c_beginNumber (l : Launch) (d : Nat) (g : (K.2 o).1 = 7) : zi_C l (zx_rm d 0 0) M_BitReader_beginNumber [.ref o] K RJ I (fun r I2 => r = none ∧ I2 = zx_u2 I o 2 (I o 1)) :=
  zi_of (by decide) (fun α => Nat.le_of_ble_eq_true rfl) (r_BitReader_beginNumber_0 l d o g ⟨rfl, rfl⟩)
theorem c_goTo (l : Launch) (d : Nat) {x : Int32} (g : (K.2 o).1 = 7) : zi_C l (zx_rm d 0 0) M_BitReader_goTo [.ref o, .int x] K RJ I (fun r I2 => r = none ∧ I2 = zx_u2 I o 1 x) :=
  zi_of (by decide) (fun α => Nat.le_of_ble_eq_true rfl) (r_BitReader_goTo_0 l d o x g ⟨rfl, rfl⟩)
theorem c_skipToByte (l : Launch) (d : Nat) (g : (K.2 o).1 = 7) (hp : I o 1 = nI p) (hp2 : p < 2 ^ 20) : zi_C l (zx_rm d 0 0) M_BitReader_skipToByte [.ref o] K RJ I (fun r I2 => r = none ∧ I2 = zx_u2 I o 1 (nI ((p + 7) / 8 * 8))) := by
  refine zi_of (by decide) (fun α => Nat.le_of_ble_eq_true rfl) (r_BitReader_skipToByte_0 l d o g ⟨rfl, ?_⟩)
  rw [hp, show (7 : Int32) = nI 7 from rfl, show (8 : Int32) = nI 8 from rfl, nI_add, pk_div (by omega) (by omega) (by omega), pk_mul]
theorem c_isAtEnd (l : Launch) (d : Nat) (g : g_Bits K RJ o ro n) (a : a_Row I ro n bs) (hp : I o 1 = nI p) (hp2 : p < 2 ^ 20) : zi_C l (zx_rm d 0 0) M_BitReader_isAtEnd [.ref o] K RJ I (fun r I2 => r = some (.int (if 8 * bs.length ≤ p then 1 else 0)) ∧ I2 = I) := by
  obtain ⟨g1, g2, g3, ⟨h1, h2, h3, h4⟩, h5⟩ := g
  obtain ⟨a0, a1, a2, -⟩ := a
  refine zi_of (by decide) (fun α => Nat.le_of_ble_eq_true rfl) (r_BitReader_isAtEnd_0 l d o g1 g2 g3 h1 ⟨fun c => ⟨?_, rfl⟩, fun c => ⟨?_, rfl⟩⟩)
  all_goals rw [hp, a1, show (8 : Int32) = nI 8 from rfl, pk_mul, nI_ltI (by omega) (by omega)] at c
  · rw [if_neg (by omega)]
  · rw [if_pos (by omega)]
theorem t_takeNumber (l : Launch) (d : Nat) {k : Nat} {Q : zi_Q} (g : g_Bits K RJ o ro n) (a : a_Row I ro n bs) (hp2 : p < 2 ^ 19) (hk : k ≤ 24)
    (q1 : p + k ≤ 8 * bs.length ∨ k = 0 → Q (some (.int (nI (bt_num bs p k)))) (zx_u2 (zx_u2 I o 2 (nI p)) o 1 (nI (p + k)))) (q2 : ∀ p2, p2 < 2 ^ 20 → 8 * bs.length < p + k → Q (some (.int (-2))) (zx_u2 (zx_u2 I o 2 (nI p)) o 1 (nI p2))) :
    ∀ j m, m + j = k → (p + m ≤ 8 * bs.length ∨ m = 0) → zi_X l (zx_rm (d + 1) 0 0) M_BitReader_takeNumber K RJ Q 8 [(0, .ref o), (1, .int (nI k)), (2, .int (nI (bt_num bs p m))), (3, .int (nI m))] [] (zx_u2 (zx_u2 I o 2 (nI p)) o 1 (nI (p + m))) := by
  intro j
  induction j with
  | zero =>
    intro m hm hi
    obtain rfl : m = k := by omega
    exact r_BitReader_takeNumber_8 l d o _ _ _ g.1 ⟨fun _ => q1 hi, fun c => absurd (nI_le (Nat.le_refl _) (by omega)) c⟩
  | succ j ih =>
    intro m hm hi
    refine r_BitReader_takeNumber_8 l d o _ _ _ g.1 ⟨fun c => ?_, fun _ => ?_⟩
    · rw [nI_leI (by omega) (by omega)] at c
      omega
    · have a' : a_Row (zx_u2 (zx_u2 I o 2 (nI p)) o 1 (nI (p + m))) ro n bs := a.keep (S := [o]) (zf_trans (zf_u2 (by simp)) (zf_u2 (by simp))) (by simp; exact fun e => g.ne.1 e.symm) (by simp; exact fun e => g.ne.2 e.symm)
      refine zi_mono (c_takeBit l d g a' zx_u2_s (by omega)) ?_
      rintro r I2 (⟨h1, rfl, rfl⟩ | ⟨h1, rfl, rfl⟩)
      · refine ⟨_, rfl, fun _ => ?_, fun c => absurd (nI_pos' (Nat.lt_of_lt_of_le (bt_lt bs _) (by omega))) c⟩
        have hb : bt_num bs p m < 2 ^ 31 := Nat.lt_of_lt_of_le (bt_num_lt bs p m) (Nat.pow_le_pow_right (by omega) (by omega))
        rw [zb_in hb (bt_lt bs _), nI_1, zx_u2_u2]
        exact ih (m + 1) (by omega) (Or.inl (by omega))
      · exact ⟨_, rfl, fun c => absurd c (by decide), fun _ => q2 (p + m) (by omega) (by omega)⟩
theorem c_takeNumber (l : Launch) (d : Nat) {k : Nat} (g : g_Bits K RJ o ro n) (a : a_Row I ro n bs) (hp : I o 1 = nI p) (hp2 : p < 2 ^ 19) (hk : k ≤ 24) (hk0 : 0 < k) : zi_C l (zx_rm (d + 1) 0 0) M_BitReader_takeNumber [.ref o, .int (nI k)] K RJ I (fun r I2 => (p + k ≤ 8 * bs.length ∧ r = some (.int (nI (bt_num bs p k))) ∧ I2 = zx_u2 (zx_u2 I o 2 (nI p)) o 1 (nI (p + k))) ∨ (8 * bs.length < p + k ∧ r = some (.int (-2)) ∧ ∃ p2, p2 < 2 ^ 20 ∧ I2 = zx_u2 (zx_u2 I o 2 (nI p)) o 1 (nI p2))) := by
  refine zi_of (by decide) (fun α => Nat.le_of_ble_eq_true rfl) ?_
  refine r_BitReader_takeNumber_0 l d o (nI k) g.1 (zi_mono (c_beginNumber l d g.1) ?_)
  rintro r I2 ⟨rfl, rfl⟩
  refine ⟨rfl, ?_⟩
  have h0 := t_takeNumber (k := k) l d g a hp2 hk (Q := fun r I2 => (p + k ≤ 8 * bs.length ∧ r = some (.int (nI (bt_num bs p k))) ∧ I2 = zx_u2 (zx_u2 I o 2 (nI p)) o 1 (nI (p + k))) ∨ (8 * bs.length < p + k ∧ r = some (.int (-2)) ∧ ∃ p2, p2 < 2 ^ 20 ∧ I2 = zx_u2 (zx_u2 I o 2 (nI p)) o 1 (nI p2)))
    (fun h => Or.inl ⟨by omega, rfl, rfl⟩) (fun p2 h1 h2 => Or.inr ⟨h2, rfl, p2, h1, rfl⟩) k 0 (by omega) (Or.inr rfl)
  refine zx_eq rfl rfl rfl ?_ h0
  rw [Nat.add_zero, hp, zx_u2_self (f := zx_u2 I o 2 (nI p)) (by rw [zx_u2_k (by decide), hp])]
/-- fill -/
theorem t_fill (l : Launch) (d : Nat) {x : Int32} {q m : Nat} {Q : zi_Q} (a : K.2 q = (0, m)) (hm : m < 2 ^ 31) (hq : Q none (fun c i => if c = q ∧ i < m then x else I c i)) :
    ∀ j k, k + j = m → zi_X l (zx_rm d 0 0) M_Arrays_fill K RJ Q 5 [(0, .ref q), (1, .int x), (2, .int (nI k)), (3, .int (nI m))] [] (fun c i => if c = q ∧ i < k then x else I c i) := by
  intro j
  induction j with
  | zero =>
    intro k hk
    obtain rfl : k = m := by omega
    exact r_Arrays_fill_5 l d q x _ _ a ⟨fun _ => hq, fun c => absurd (nI_le (Nat.le_refl _) hm) c⟩
  | succ j ih =>
    intro k hk
    refine r_Arrays_fill_5 l d q x _ _ a ⟨fun c => ?_, fun _ => ⟨k, rfl, by omega, ?_⟩⟩
    · rw [nI_leI (by omega) (by omega)] at c
      omega
    · have h := ih (k + 1) (by omega)
      rw [nI_1]
      rw [show (zx_u2 (fun c i => if c = q ∧ i < k then x else I c i) q k x) = (fun c i => if c = q ∧ i < k + 1 then x else I c i) from by
        funext c i
        unfold zx_u2
        by_cases h1 : c = q
        · by_cases h2 : i = k
          · simp [h1, h2]
          · have : (i < k + 1) ↔ (i < k) := by omega
            simp [h1, h2, this]
        · simp [h1]]
      exact h
theorem c_fill (l : Launch) (d : Nat) {x : Int32} {q m : Nat} (a : K.2 q = (0, m)) (hm : m < 2 ^ 31) : zi_C l (zx_rm d 0 0) M_Arrays_fill [.ref q, .int x] K RJ I (fun r I2 => r = none ∧ I2 = fun c i => if c = q ∧ i < m then x else I c i) := by
  refine zi_of (by decide) (fun α => Nat.le_of_ble_eq_true rfl) (r_Arrays_fill_0 l d q x a ?_)
  have h := t_fill (RJ := RJ) (I := I) (x := x) l d a hm (Q := fun r I2 => r = none ∧ I2 = fun c i => if c = q ∧ i < m then x else I c i) ⟨rfl, rfl⟩ m 0 (by omega)
  refine zx_eq rfl rfl rfl ?_ h
  simp
end LF
