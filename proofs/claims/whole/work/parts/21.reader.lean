/-! BitReader. -/
def g_Bits (K : zx_Kt) (RJ : zx_RJ) (o ro n : Nat) : Prop := (K.2 o).1 = 7 ∧ RJ.1 o 0 = ro ∧ ro ≠ 0 ∧ g_Row K RJ ro n ∧ n ≤ 400
theorem g_Bits.ne {K : zx_Kt} {RJ : zx_RJ} {o ro n : Nat} (g : g_Bits K RJ o ro n) : o ≠ ro ∧ o ≠ ro + 1 := by
  obtain ⟨g1, g2, g3, ⟨h1, h2, h3, h4⟩, -⟩ := g
  refine ⟨fun e => ?_, fun e => ?_⟩
  · rw [e, h1] at g1
    cases g1
  · rw [e, h3] at g1
    cases g1
/-- a number of k bits from bit p on -/
def bt_num (bs : List Nat) (p : Nat) : Nat → Nat
  | 0 => 0
  | k + 1 => 2 * bt_num bs p k + bt_at bs (p + k)
theorem bt_num_lt (bs : List Nat) (p k : Nat) : bt_num bs p k < 2 ^ k := by
  induction k with
  | zero => simp [bt_num]
  | succ k ih =>
    have := bt_lt bs (p + k)
    rw [Nat.pow_succ]
    simp only [bt_num]
    omega
section RD
variable {K : zx_Kt} {RJ : zx_RJ} {I : zi_I} {o ro n p : Nat} {bs : List Nat}
theorem c_takeBit (l : Launch) (d : Nat) (g : g_Bits K RJ o ro n) (a : a_Row I ro n bs) (hp : I o 1 = nI p) (hp2 : p < 2 ^ 20) : zi_C l (zx_rm d 0 0) M_BitReader_takeBit [.ref o] K RJ I (fun r I2 => (p < 8 * bs.length ∧ r = some (.int (nI (bt_at bs p))) ∧ I2 = zx_u2 I o 1 (nI (p + 1))) ∨ (8 * bs.length ≤ p ∧ r = some (.int (-2)) ∧ I2 = I)) := by
  obtain ⟨g1, g2, g3, ⟨h1, h2, h3, h4⟩, h5⟩ := g
  have alt := a.lt (p / 8)
  obtain ⟨a0, a1, a2, -⟩ := a
  refine zi_of (by decide) (fun α => Nat.le_of_ble_eq_true rfl) ?_
  have e8 : nI p / 8 = nI (p / 8) := pk_div (d := 8) (by omega) (by omega) (by omega)
  have em : nI p - nI p / 8 * 8 = nI (p % 8) := pk_rem (d := 8) (by omega) (by omega) (by omega)
  refine r_BitReader_takeBit_0 l d o g1 g2 g3 h1 h2 (by omega) h3 ⟨fun c => ?_, fun _ => ⟨fun c => ?_, fun c => ?_⟩⟩
  · rw [hp, e8] at c
    exact absurd c (nI_pos (by omega))
  · rw [hp, e8, a1, nI_ltI (by omega) (by omega)] at c
    refine ⟨p / 8, by rw [hp, e8], by omega, Or.inl ⟨by omega, ?_, by rw [hp, nI_1]⟩⟩
    rw [hp, em, a2 _ c, show (7 : Int32) = nI 7 from rfl, pk_sub (by omega), zb_shr (by omega) (by omega), zb_mod2 (Nat.lt_of_le_of_lt (Nat.div_le_self _ _) (by omega))]
    rfl
  · rw [hp, e8, a1, nI_ltI (by omega) (by omega)] at c
    exact Or.inr ⟨by omega, rfl, rfl⟩
end RD
