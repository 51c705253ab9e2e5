/-! BitWriter: whole bytes, and what is held. -/
def g_W (K : zx_Kt) (RJ : zx_RJ) (o ro n : Nat) : Prop := (K.2 o).1 = 8 ∧ RJ.1 o 0 = ro ∧ ro ≠ 0 ∧ g_Row K RJ ro n
abbrev ws_S : Type := List Nat × Nat × Nat
def ws_bit (s : ws_S) (b : Nat) : ws_S := if s.2.2 + 1 = 8 then (s.1 ++ [2 * s.2.1 + b], 0, 0) else (s.1, 2 * s.2.1 + b, s.2.2 + 1)
def ws_put (s : ws_S) (x : Nat) : Nat → ws_S
  | 0 => s
  | k + 1 => ws_put (ws_bit s (x / 2 ^ k % 2)) x k
def ws_n (s : ws_S) : Nat := 8 * s.1.length + s.2.2
theorem ws_n_bit (s : ws_S) (b : Nat) : ws_n (ws_bit s b) = ws_n s + 1 := by
  unfold ws_n ws_bit
  by_cases h : s.2.2 + 1 = 8
  · rw [if_pos h]
    simp
    omega
  · rw [if_neg h]
    simp
    omega
theorem ws_n_put (x : Nat) : ∀ (k : Nat) (s : ws_S), ws_n (ws_put s x k) = ws_n s + k
  | 0, s => rfl
  | k + 1, s => by
    show ws_n (ws_put (ws_bit s (x / 2 ^ k % 2)) x k) = _
    rw [ws_n_put x k, ws_n_bit]
    omega
def a_W (I : zi_I) (o ro n : Nat) (s : ws_S) : Prop := I o 1 = nI s.2.1 ∧ I o 2 = nI s.2.2 ∧ s.2.2 < 8 ∧ s.2.1 < 2 ^ s.2.2 ∧ a_Row I ro n s.1
theorem g_W.ne {K : zx_Kt} {RJ : zx_RJ} {o ro n : Nat} (g : g_W K RJ o ro n) : o ≠ ro ∧ o ≠ ro + 1 := by
  obtain ⟨g1, g2, g3, ⟨h1, h2, h3, h4⟩⟩ := g
  refine ⟨fun e => ?_, fun e => ?_⟩
  · rw [e, h1] at g1
    cases g1
  · rw [e, h3] at g1
    cases g1
theorem zf_at {S : List Nat} {I I2 : zi_I} (h : zf S I I2) {q : Nat} (hq : q ∉ S) (i : Nat) : I2 q i = I q i := by rw [h q hq]
section WR
variable {K : zx_Kt} {RJ : zx_RJ} {I : zi_I} {o ro n : Nat} {s : ws_S}
theorem c_putBit (l : Launch) (d : Nat) {b : Nat} (g : g_W K RJ o ro n) (a : a_W I o ro n s) (hb : b < 2) (hc : ws_n s < 8 * n) : zi_C l (zx_rm (d + 1) 0 0) M_BitWriter_putBit [.ref o, .int (nI b)] K RJ I (fun r I2 => r = none ∧ a_W I2 o ro n (ws_bit s b) ∧ zf [o, ro, ro + 1] I I2) := by
  obtain ⟨bs, hv, c0⟩ := s
  obtain ⟨a1, a2, a3, a4, a5⟩ := a
  have hne := g.ne
  obtain ⟨g1, g2, g3, g4⟩ := g
  dsimp only at a1 a2 a3 a4 a5
  have hp : 2 ^ c0 ≤ 2 ^ 7 := Nat.pow_le_pow_right (by omega) (by omega)
  have hl : 2 * hv + b < 2 ^ (c0 + 1) := by
    rw [Nat.pow_succ]
    omega
  have e1 : (I o 1 <<< ((1 : Int32) &&& 31)) ||| nI b = nI (2 * hv + b) := by
    rw [a1]
    exact zb_in (by omega) hb
  have e2 : I o 2 + 1 = nI (c0 + 1) := by rw [a2, nI_1]
  have e3 : I o 2 + 1 = 8 ↔ c0 + 1 = 8 := by
    rw [e2, show (8 : Int32) = nI 8 from rfl, nI_eq (by omega) (by omega)]
  refine zi_of (by decide) (fun α => Nat.le_of_ble_eq_true rfl) ?_
  refine r_BitWriter_putBit_0 l d o (nI b) g1 g2 g3 g4.1 ⟨fun c => ⟨rfl, ?_, zf_trans (zf_u2 (by simp)) (zf_u2 (by simp))⟩, fun c => ?_⟩
  · rw [e3] at c
    have hw : ws_bit (bs, hv, c0) b = (bs, 2 * hv + b, c0 + 1) := by simp [ws_bit, c]
    rw [hw, e1, e2]
    refine ⟨?_, zx_u2_s, (show c0 + 1 < 8 by omega), hl, ?_⟩
    · rw [zx_u2_k (by decide), zx_u2_s]
    · exact a5.keep (S := [o]) (zf_trans (zf_u2 (by simp)) (zf_u2 (by simp))) (by simp; exact fun e => hne.1 e.symm) (by simp; exact fun e => hne.2 e.symm)
  · rw [e3] at c
    have hw : ws_bit (bs, hv, c0) b = (bs ++ [2 * hv + b], 0, 0) := by simp [ws_bit, c]
    rw [e1, e2]
    have a5' := a5.keep (I2 := zx_u2 (zx_u2 I o 1 (nI (2 * hv + b))) o 2 (nI (c0 + 1))) (S := [o]) (zf_trans (zf_u2 (by simp)) (zf_u2 (by simp))) (by simp; exact fun e => hne.1 e.symm) (by simp; exact fun e => hne.2 e.symm)
    have hc2 : bs.length < n := by
      simp only [ws_n] at hc
      omega
    have hl2 : 2 * hv + b < 256 := by
      have : 2 ^ (c0 + 1) = 256 := by rw [c]
      omega
    refine zi_mono (c_Row_add l d g4 a5' hc2 hl2) ?_
    rintro r I2 ⟨rfl, z1, z2⟩
    refine ⟨rfl, rfl, ?_, ?_⟩
    · rw [hw]
      refine ⟨?_, zx_u2_s, (show 0 < 8 by decide), (show 0 < 2 ^ 0 by decide), ?_⟩
      · rw [zx_u2_k (by decide), zx_u2_s]
        rfl
      · exact z1.keep (S := [o]) (zf_trans (zf_u2 (by simp)) (zf_u2 (by simp))) (by simp; exact fun e => hne.1 e.symm) (by simp; exact fun e => hne.2 e.symm)
    · exact zf_trans (zf_trans (zf_trans (zf_u2 (by simp)) (zf_u2 (by simp))) (zf_mono z2 (by simp))) (zf_trans (zf_u2 (by simp)) (zf_u2 (by simp)))
theorem zi_m1 (x : Int32) : x + (-1) = x - 1 := by rw [Int32.sub_eq_add_neg]
theorem t_put (l : Launch) (d : Nat) {x k0 : Nat} {Q : zi_Q} (g : g_W K RJ o ro n) (hx : x < 2 ^ 31) :
    ∀ (k : Nat) (s : ws_S) (I : zi_I), k ≤ 31 → a_W I o ro n s → ws_n s + k ≤ 8 * n → (∀ I2, a_W I2 o ro n (ws_put s x k) → zf [o, ro, ro + 1] I I2 → Q none I2) →
      zi_X l (zx_rm (d + 2) 0 0) M_BitWriter_put K RJ Q 4 [(0, .ref o), (1, .int (nI x)), (2, .int (nI k0)), (3, .int (nI k - 1))] [] I := by
  intro k
  induction k with
  | zero =>
    intro s I hk a hn hq
    exact r_BitWriter_put_4 l (d + 1) o _ _ _ g.1 ⟨fun _ => hq I a zf_refl, fun c => absurd (by decide) c⟩
  | succ k ih =>
    intro s I hk a hn hq
    rw [nI_pred]
    refine r_BitWriter_put_4 l (d + 1) o _ _ _ g.1 ⟨fun c => absurd c (nI_pos (by omega)), fun _ => ?_⟩
    rw [zb_shr hx (by omega), zb_mod2 (Nat.lt_of_le_of_lt (Nat.div_le_self _ _) (by omega))]
    refine zi_mono (c_putBit l d g a (Nat.mod_lt _ (by omega)) (by omega)) ?_
    rintro r I2 ⟨rfl, z1, z2⟩
    refine ⟨rfl, ?_⟩
    rw [zi_m1]
    refine ih _ I2 (by omega) z1 (by rw [ws_n_bit]; omega) (fun I3 y1 y2 => hq I3 y1 (zf_trans z2 y2))
theorem c_put (l : Launch) (d : Nat) {x k : Nat} (g : g_W K RJ o ro n) (a : a_W I o ro n s) (hx : x < 2 ^ 31) (hk : k ≤ 31) (hn : ws_n s + k ≤ 8 * n) : zi_C l (zx_rm (d + 2) 0 0) M_BitWriter_put [.ref o, .int (nI x), .int (nI k)] K RJ I (fun r I2 => r = none ∧ a_W I2 o ro n (ws_put s x k) ∧ zf [o, ro, ro + 1] I I2) :=
  zi_of (by decide) (fun α => Nat.le_of_ble_eq_true rfl) (r_BitWriter_put_0 l (d + 1) o _ _ (t_put l d g hx k s I hk a hn (fun I2 z1 z2 => ⟨rfl, z1, z2⟩)))
/-- the last byte is filled -/
def ws_fill (s : ws_S) : ws_S := if s.2.2 = 0 then s else ws_put s 0 (8 - s.2.2)
theorem c_fillByte (l : Launch) (d : Nat) (g : g_W K RJ o ro n) (a : a_W I o ro n s) (hn : ws_n s ≤ 8 * n) : zi_C l (zx_rm (d + 3) 0 0) M_BitWriter_fillByte [.ref o] K RJ I (fun r I2 => r = none ∧ a_W I2 o ro n (ws_fill s) ∧ zf [o, ro, ro + 1] I I2) := by
  have a2 := a.2.1
  have a3 := a.2.2.1
  refine zi_of (by decide) (fun α => Nat.le_of_ble_eq_true rfl) (r_BitWriter_fillByte_0 l (d + 2) o g.1 ⟨fun c => ?_, fun c => ?_⟩)
  · have h0 : s.2.2 = 0 := by
      rw [a2, show (0 : Int32) = nI 0 from rfl, nI_leI (by omega) (by omega)] at c
      omega
    refine ⟨rfl, ?_, zf_refl⟩
    rw [ws_fill, if_pos h0]
    exact a
  · have h0 : ¬ s.2.2 = 0 := by
      rw [a2, show (0 : Int32) = nI 0 from rfl, nI_leI (by omega) (by omega)] at c
      omega
    rw [a2, show (8 : Int32) = nI 8 from rfl, pk_sub (by omega)]
    refine zi_mono (c_put (x := 0) l d g a (by omega) (by omega) (by simp only [ws_n] at hn ⊢; omega)) ?_
    rintro r I2 ⟨rfl, z1, z2⟩
    refine ⟨rfl, rfl, ?_, z2⟩
    rw [ws_fill, if_neg h0]
    exact z1
end WR
section RW2
variable {K : zx_Kt} {RJ : zx_RJ} {I : zi_I} {o q n m : Nat} {bs cs : List Nat}
theorem c_addAll (l : Launch) (d : Nat) (g : g_Row K RJ o n) (g2 : g_Row K RJ q m) (hne : o ≠ q) (a : a_Row I o n bs) (a2 : a_Row I q m cs) (hn : bs.length + cs.length ≤ n) : zi_C l (zx_rm (d + 1) 0 0) M_Row_addAll [.ref o, .ref q] K RJ I (fun r I2 => r = none ∧ a_Row I2 o n (bs ++ cs) ∧ zf [o, o + 1] I I2) := by
  have hm : cs.length < 2 ^ 20 := Nat.lt_of_le_of_lt a2.1 g2.2.2.2
  have hb2 : bs.length < 2 ^ 20 := Nat.lt_of_le_of_lt a.1 g.2.2.2
  have k1 : o + 1 ≠ q := fun e => by
    have h1 := g.2.2.1
    have h2 := g2.1
    rw [e] at h1
    rw [h1] at h2
    cases h2
  have k2 : o ≠ q + 1 := fun e => by
    have h1 := g2.2.2.1
    have h2 := g.1
    rw [← e] at h1
    rw [h1] at h2
    cases h2
  refine zi_of (by decide) (fun α => Nat.le_of_ble_eq_true rfl) ?_
  refine r_Row_addAll_0 l d o q g2.1 g.1 g2.2.1 (by omega) g.2.1 (by omega) g2.2.2.1 g.2.2.1 ?_
  rw [a2.2.1]
  refine zi_mono (c_Row_hasRoom l d g a hm) ?_
  rintro r I2 ⟨rfl, rfl⟩
  rw [if_pos hn]
  refine ⟨_, rfl, fun c => absurd c (by decide), fun _ => ?_⟩
  refine ⟨0, bs.length, cs.length, rfl, a.2.1, a2.2.1, by have := a2.1; omega, hn, rfl, ⟨?_, ?_, ?_, ?_⟩, zf_trans (zf_cpy (by simp)) (zf_u2 (by simp))⟩
  · simpa using hn
  · rw [zx_u2_s, a.2.1, a2.2.1, nI_add, List.length_append]
  · intro i hi
    rw [List.length_append] at hi
    rw [zx_u2_ne (by omega)]
    simp only [zi_cpy, if_pos]
    by_cases h1 : i < bs.length
    · rw [pk_cpy_out (by omega), a.2.2.1 i h1]
      simp only [List.getD_eq_getElem?_getD, List.getElem?_append_left h1]
    · rw [pk_cpy_in (by omega) (by omega), Nat.zero_add, a2.2.2.1 _ (by omega)]
      simp only [List.getD_eq_getElem?_getD, List.getElem?_append_right (Nat.le_of_not_lt h1)]
  · intro b hb
    rcases List.mem_append.mp hb with h | h
    · exact a.2.2.2 b h
    · exact a2.2.2.2 b h
end RW2
