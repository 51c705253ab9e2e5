/-! Row: a row of bytes. -/
def g_Row (K : zx_Kt) (RJ : zx_RJ) (o n : Nat) : Prop := (K.2 o).1 = 16 ∧ RJ.1 o 0 = o + 1 ∧ K.2 (o + 1) = (0, n) ∧ n < 2 ^ 20
def a_Row (I : zi_I) (o n : Nat) (bs : List Nat) : Prop := bs.length ≤ n ∧ I o 1 = nI bs.length ∧ (∀ i, i < bs.length → I (o + 1) i = nI (bs.getD i 0)) ∧ ∀ b ∈ bs, b < 256
theorem a_Row.keep {I I2 : zi_I} {o n : Nat} {bs : List Nat} {S : List Nat} (a : a_Row I o n bs) (h : zf S I I2) (h1 : o ∉ S) (h2 : o + 1 ∉ S) : a_Row I2 o n bs := ⟨a.1, by rw [h o h1]; exact a.2.1, fun i hi => by rw [h _ h2]; exact a.2.2.1 i hi, a.2.2.2⟩
theorem a_Row.lt {I : zi_I} {o n : Nat} {bs : List Nat} (a : a_Row I o n bs) (i : Nat) : bs.getD i 0 < 256 := by
  rw [List.getD_eq_getElem?_getD]
  cases h : bs[i]? with
  | none => simp
  | some b => exact a.2.2.2 b (List.mem_of_getElem? h)
section RW
variable {K : zx_Kt} {RJ : zx_RJ} {I : zi_I} {o n : Nat} {bs : List Nat}
theorem c_Row_add (l : Launch) (d : Nat) {b : Nat} (g : g_Row K RJ o n) (a : a_Row I o n bs) (hb : bs.length < n) (hb2 : b < 256) : zi_C l (zx_rm d 0 0) M_Row_add [.ref o, .int (nI b)] K RJ I (fun r I2 => r = none ∧ a_Row I2 o n (bs ++ [b]) ∧ zf [o, o + 1] I I2) := by
  obtain ⟨g1, g2, g3, g4⟩ := g
  obtain ⟨a0, a1, a2, a3⟩ := a
  refine zi_of (by decide) (fun α => Nat.le_of_ble_eq_true rfl) ?_
  refine r_Row_add_0 l d o (nI b) g1 g2 (by omega) g3 ⟨fun c => ?_, fun c => ⟨bs.length, a1, hb, rfl, ⟨?_, ?_, ?_, ?_⟩, ?_⟩⟩
  · rw [a1, nI_leI (by omega) (by omega)] at c
    omega
  · simp
    omega
  · simp [zx_u2, a1, nI_1]
  · intro i hi
    rw [List.length_append, List.length_singleton] at hi
    by_cases hi2 : i = bs.length
    · subst hi2
      simp [zx_u2]
    · have h3 : i < bs.length := by omega
      simp [zx_u2, hi2, a2 i h3, List.getD_eq_getElem?_getD, List.getElem?_append_left h3]
  · intro b1 h1
    rcases List.mem_append.mp h1 with h1 | h1
    · exact a3 b1 h1
    · rw [List.mem_singleton.mp h1]
      exact hb2
  · intro q hq
    simp at hq
    funext i
    simp [zx_u2, hq]
theorem c_Row_hasRoom (l : Launch) (d : Nat) {m : Nat} (g : g_Row K RJ o n) (a : a_Row I o n bs) (hm : m < 2 ^ 20) : zi_C l (zx_rm d 0 0) M_Row_hasRoom [.ref o, .int (nI m)] K RJ I (fun r I2 => r = some (.int (if bs.length + m ≤ n then 1 else 0)) ∧ I2 = I) := by
  obtain ⟨g1, g2, g3, g4⟩ := g
  obtain ⟨a0, a1, a2, a3⟩ := a
  refine zi_of (by decide) (fun α => Nat.le_of_ble_eq_true rfl) ?_
  refine r_Row_hasRoom_0 l d o (nI m) g1 g2 (by omega) g3 ⟨fun c => ⟨?_, rfl⟩, fun c => ⟨?_, rfl⟩⟩
  all_goals rw [a1, pk_sub a0, nI_ltI (by omega) (by omega)] at c
  · rw [if_neg (by omega)]
  · rw [if_pos (by omega)]
theorem c_Row_cut (l : Launch) (d : Nat) {m : Nat} (g : g_Row K RJ o n) (a : a_Row I o n bs) (hm : m < 2 ^ 20) : zi_C l (zx_rm d 0 0) M_Row_cut [.ref o, .int (nI m)] K RJ I (fun r I2 => r = none ∧ a_Row I2 o n (bs.take m) ∧ zf [o, o + 1] I I2) := by
  obtain ⟨g1, g2, g3, g4⟩ := g
  obtain ⟨a0, a1, a2, a3⟩ := a
  refine zi_of (by decide) (fun α => Nat.le_of_ble_eq_true rfl) ?_
  refine r_Row_cut_0 l d o (nI m) g1 ⟨fun c => absurd c (nI_pos (by omega)), fun _ => ⟨fun c => ⟨rfl, ?_, zf_refl⟩, fun c => ⟨rfl, ⟨?_, ?_, ?_, fun b hb => a3 b (List.mem_of_mem_take hb)⟩, zf_u2 (by simp)⟩⟩⟩
  · rw [a1, nI_leI (by omega) (by omega)] at c
    rw [List.take_of_length_le c]
    exact ⟨a0, a1, a2, a3⟩
  · rw [List.length_take]
    omega
  · rw [a1, nI_leI (by omega) (by omega)] at c
    rw [zx_u2_s, List.length_take, Nat.min_eq_left (by omega)]
  · intro i hi
    rw [List.length_take] at hi
    rw [zx_u2_ne (by omega), a2 i (by omega)]
    simp only [List.getD_eq_getElem?_getD, List.getElem?_take]
    rw [if_pos (by omega)]
theorem c_Row_get (l : Launch) (d : Nat) {i : Nat} (g : g_Row K RJ o n) (a : a_Row I o n bs) (hi : i < 2 ^ 20) : zi_C l (zx_rm d 0 0) M_Row_get [.ref o, .int (nI i)] K RJ I (fun r I2 => r = some (.int (nI (bs.getD i 0))) ∧ I2 = I) := by
  obtain ⟨g1, g2, g3, g4⟩ := g
  obtain ⟨a0, a1, a2, a3⟩ := a
  refine zi_of (by decide) (fun α => Nat.le_of_ble_eq_true rfl) ?_
  refine r_Row_get_0 l d o (nI i) g1 g2 (by omega) g3 ⟨fun c => absurd c (nI_pos (by omega)), fun _ => ⟨fun c => ⟨?_, rfl⟩, fun c => ?_⟩⟩
  · rw [a1, nI_leI (by omega) (by omega)] at c
    rw [List.getD_eq_getElem?_getD, List.getElem?_eq_none c]
    rfl
  · rw [a1, nI_leI (by omega) (by omega)] at c
    exact ⟨i, rfl, by omega, by rw [a2 i (by omega)], rfl⟩
end RW
