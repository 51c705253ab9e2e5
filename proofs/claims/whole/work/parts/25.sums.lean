/-! CHECK and TOTAL, of both sides. -/
def cr_1 (c : Nat) : Nat := if 32768 ≤ c then (c * 2) % 65536 ^^^ 4129 else c * 2
def cr_k (c : Nat) : Nat → Nat
  | 0 => c
  | k + 1 => cr_k (cr_1 c) k
def cr_b (c b : Nat) : Nat := cr_k (c ^^^ (b * 256)) 8
/-- over f i .. f (i + j - 1) -/
def cr_fn (f : Nat → Nat) (i : Nat) : Nat → Nat → Nat
  | 0, c => c
  | j + 1, c => cr_fn f (i + 1) j (cr_b c (f i))
theorem cr_1_lt {c : Nat} (h : c < 65536) : cr_1 c < 65536 := by
  unfold cr_1
  by_cases h1 : 32768 ≤ c
  · rw [if_pos h1]
    exact Nat.xor_lt_two_pow (n := 16) (Nat.mod_lt _ (by decide)) (by decide)
  · rw [if_neg h1]
    omega
theorem cr_k_lt : ∀ (k c : Nat), c < 65536 → cr_k c k < 65536
  | 0, _, h => h
  | k + 1, c, h => cr_k_lt k (cr_1 c) (cr_1_lt h)
theorem cr_x_lt {c b : Nat} (h : c < 65536) (hb : b < 256) : c ^^^ (b * 256) < 65536 := Nat.xor_lt_two_pow (n := 16) h (by omega)
theorem cr_b_lt {c b : Nat} (h : c < 65536) (hb : b < 256) : cr_b c b < 65536 := cr_k_lt 8 _ (cr_x_lt h hb)
theorem cr_shl {c : Nat} (h : c < 65536) : nI c <<< ((1 : Int32) &&& 31) = nI (c * 2) := zb_shl (j := 1) (by omega) (by omega)
theorem cr_sh8 {b : Nat} (h : b < 256) : nI b <<< ((8 : Int32) &&& 31) = nI (b * 256) := zb_shl (j := 8) (by omega) (by omega)
theorem cr_and {n : Nat} (h : n < 2 ^ 32) : nI n &&& 65535 = nI (n % 65536) := pk_andN h 16 (by decide)
section SM
variable {K : zx_Kt} {RJ : zx_RJ} {I : zi_I} {o n : Nat} {bs : List Nat}
theorem t_checkIn (l : Launch) (d : Nat) {x1 x2 x4 : Int32} {Q : zi_Q} :
    ∀ (j m c : Nat), m + j = 8 → c < 65536 → zi_X l (zx_rm (d + 1) 0 0) M_Main_checkOf K RJ Q 6 [(0, .ref o), (1, .int x1), (2, .int x2), (3, .int (nI (cr_k c j))), (4, .int (x4 + 1))] [] I →
      zi_X l (zx_rm (d + 1) 0 0) M_Main_checkOf K RJ Q 27 [(0, .ref o), (1, .int x1), (2, .int x2), (3, .int (nI c)), (4, .int x4), (5, .int (nI m))] [] I := by
  intro j
  induction j with
  | zero =>
    intro m c hm hc hk
    obtain rfl : m = 8 := by omega
    exact r_Main_checkOf_27 l d o _ _ _ _ _ ⟨fun _ => hk, fun h => absurd (by decide) h⟩
  | succ j ih =>
    intro m c hm hc hk
    refine r_Main_checkOf_27 l d o _ _ _ _ _ ⟨fun h => ?_, fun _ => ⟨fun h => ?_, fun h => ?_⟩⟩
    · rw [show (8 : Int32) = nI 8 from rfl, nI_leI (by omega) (by omega)] at h
      omega
    · rw [cr_shl hc, show (65535 : Int32) = nI 65535 from rfl, nI_leI (by omega) (by omega)] at h
      rw [cr_shl hc, nI_1]
      have e : cr_1 c = c * 2 := by rw [cr_1, if_neg (by omega)]
      rw [← e]
      exact ih (m + 1) (cr_1 c) (by omega) (cr_1_lt hc) hk
    · rw [cr_shl hc, show (65535 : Int32) = nI 65535 from rfl, nI_leI (by omega) (by omega)] at h
      rw [cr_shl hc, nI_1, cr_and (by omega), show (4129 : Int32) = nI 4129 from rfl, zb_xor]
      have e : cr_1 c = (c * 2) % 65536 ^^^ 4129 := by rw [cr_1, if_pos (by omega)]
      rw [← e]
      exact ih (m + 1) (cr_1 c) (by omega) (cr_1_lt hc) hk
theorem t_checkOf (l : Launch) (d : Nat) {x1 : Int32} {e : Nat} {Q : zi_Q} (g : g_Row K RJ o n) (a : a_Row I o n bs) (he : e < 2 ^ 20) :
    ∀ (j i c : Nat), i + j = e → c < 65536 → Q (some (.int (nI (cr_fn (fun k => bs.getD k 0) i j c)))) I →
      zi_X l (zx_rm (d + 1) 0 0) M_Main_checkOf K RJ Q 6 [(0, .ref o), (1, .int x1), (2, .int (nI e)), (3, .int (nI c)), (4, .int (nI i))] [] I := by
  intro j
  induction j with
  | zero =>
    intro i c hi hc hk
    obtain rfl : i = e := by omega
    exact r_Main_checkOf_6 l d o _ _ _ _ g.1 ⟨fun _ => hk, fun h => absurd (nI_le (Nat.le_refl _) (by omega)) h⟩
  | succ j ih =>
    intro i c hi hc hk
    refine r_Main_checkOf_6 l d o _ _ _ _ g.1 ⟨fun h => ?_, fun _ => ?_⟩
    · rw [nI_leI (by omega) (by omega)] at h
      omega
    · refine zi_mono (c_Row_get l d g a (by omega)) ?_
      rintro r I2 ⟨rfl, rfl⟩
      refine ⟨_, rfl, ?_⟩
      rw [cr_sh8 (a.lt i), zb_xor]
      refine t_checkIn l d 8 0 _ (by omega) (cr_x_lt hc (a.lt i)) ?_
      rw [nI_1]
      exact ih (i + 1) _ (by omega) (cr_b_lt hc (a.lt i)) hk
theorem c_checkOf (l : Launch) (d : Nat) {i e : Nat} (g : g_Row K RJ o n) (a : a_Row I o n bs) (hi : i ≤ e) (he : e < 2 ^ 20) : zi_C l (zx_rm (d + 1) 0 0) M_Main_checkOf [.ref o, .int (nI i), .int (nI e)] K RJ I (fun r I2 => r = some (.int (nI (cr_fn (fun k => bs.getD k 0) i (e - i) 65535))) ∧ I2 = I) :=
  zi_of (by decide) (fun α => Nat.le_of_ble_eq_true rfl) (r_Main_checkOf_0 l d o _ _ (t_checkOf l d g a he (e - i) i 65535 (by omega) (by decide) ⟨rfl, rfl⟩))
theorem cr_bit {c : Nat} (h : c < 65536) : (nI c &&& 32768) = 0 ↔ c < 32768 := by
  have hle : c &&& 2 ^ 15 ≤ 2 ^ 15 := Nat.and_le_right
  rw [show (32768 : Int32) = nI (2 ^ 15) from rfl, zb_and, show (0 : Int32) = nI 0 from rfl, nI_eq (by omega) (by omega)]
  constructor
  · intro h0
    refine Nat.lt_of_not_le (fun h1 => ?_)
    have h2 : c.testBit 15 = true := by
      rw [Nat.testBit_eq_decide_div_mod_eq]
      have : c / 2 ^ 15 % 2 = 1 := by omega
      simp [this]
    have h3 : (c &&& 2 ^ 15).testBit 15 = true := by rw [Nat.testBit_and, h2, Nat.testBit_two_pow_self]; rfl
    rw [h0, Nat.zero_testBit] at h3
    cases h3
  · intro h1
    apply Nat.eq_of_testBit_eq
    intro i
    rw [Nat.testBit_and, Nat.testBit_two_pow, Nat.zero_testBit]
    by_cases hi : 15 = i
    · subst hi
      rw [Nat.testBit_lt_two_pow (by omega)]
      rfl
    · simp [hi]
theorem t_step (l : Launch) (d : Nat) {x0 x1 : Int32} {Q : zi_Q} :
    ∀ (j m c : Nat), m + j = 8 → c < 65536 → Q (some (.int (nI (cr_k c j)))) I →
      zi_X l (zx_rm d 0 0) M_Mod_step K RJ Q 9 [(0, .int x0), (1, .int x1), (2, .int (nI c)), (3, .int (nI m))] [] I := by
  intro j
  induction j with
  | zero =>
    intro m c hm hc hk
    obtain rfl : m = 8 := by omega
    exact r_Mod_step_9 l d _ _ _ _ ⟨fun _ => hk, fun h => absurd (by decide) h⟩
  | succ j ih =>
    intro m c hm hc hk
    refine r_Mod_step_9 l d _ _ _ _ ⟨fun h => ?_, fun _ => ⟨fun h => ?_, fun h => ?_⟩⟩
    · rw [show (8 : Int32) = nI 8 from rfl, nI_leI (by omega) (by omega)] at h
      omega
    · rw [cr_bit hc] at h
      rw [cr_shl hc, cr_and (by omega), nI_1]
      have e : cr_1 c = (c * 2) % 65536 := by rw [cr_1, if_neg (by omega)]; omega
      rw [← e]
      exact ih (m + 1) (cr_1 c) (by omega) (cr_1_lt hc) hk
    · rw [cr_bit hc] at h
      rw [cr_shl hc, show (4129 : Int32) = nI 4129 from rfl, zb_xor, cr_and (Nat.xor_lt_two_pow (n := 32) (by omega) (by decide)), nI_1]
      have e : cr_1 c = (c * 2 ^^^ 4129) % 65536 := by
        rw [cr_1, if_pos (by omega), show (65536 : Nat) = 2 ^ 16 from rfl, Nat.xor_mod_two_pow]
      rw [← e]
      exact ih (m + 1) (cr_1 c) (by omega) (cr_1_lt hc) hk
theorem c_step (l : Launch) (d : Nat) {c b : Nat} (hc : c < 65536) (hb : b < 256) : zi_C l (zx_rm d 0 0) M_Mod_step [.int (nI c), .int (nI b)] K RJ I (fun r I2 => r = some (.int (nI (cr_b c b))) ∧ I2 = I) := by
  refine zi_of (by decide) (fun α => Nat.le_of_ble_eq_true rfl) (r_Mod_step_0 l d _ _ ?_)
  rw [cr_sh8 hb, zb_xor]
  exact t_step l d 8 0 _ (by omega) (cr_x_lt hc hb) ⟨rfl, rfl⟩
/-- TOTAL -/
def tt_1 (t c : Nat) : Nat := ((t * 2) % 65536 + t / 32768) ^^^ c
theorem tt_lt {t c : Nat} (h : t < 65536) (hc : c < 65536) : tt_1 t c < 65536 := Nat.xor_lt_two_pow (n := 16) (by omega) hc
theorem tt_or {t : Nat} (h : t < 65536) : (t * 2) % 65536 ||| t / 32768 = (t * 2) % 65536 + t / 32768 := by
  have e : (t * 2) % 65536 = 2 * (t % 32768) := by omega
  rw [e, zb_or2 (by omega)]
theorem c_nextTotal (l : Launch) (d : Nat) {t c : Nat} (ht : t < 65536) : zi_C l (zx_rm d 0 0) M_Main_nextTotal [.int (nI t), .int (nI c)] K RJ I (fun r I2 => r = some (.int (nI (tt_1 t c))) ∧ I2 = I) := by
  refine zi_of (by decide) (fun α => Nat.le_of_ble_eq_true rfl) (r_Main_nextTotal_0 l d _ _ ⟨?_, rfl⟩)
  rw [cr_shl ht, pk_ushrN (by omega) 15 15 (by decide), zb_or, cr_and (Nat.or_lt_two_pow (n := 32) (by omega) (by omega)), zb_xor]
  rw [show (65536 : Nat) = 2 ^ 16 from rfl, Nat.or_mod_two_pow]
  rw [show t / 2 ^ 15 % 2 ^ 16 = t / 32768 by omega, show (2 : Nat) ^ 16 = 65536 from rfl, tt_or ht]
  rfl
theorem c_addTotal (l : Launch) (d : Nat) {t c : Nat} (ht : t < 65536) : zi_C l (zx_rm d 0 0) M_Mod_addTotal [.int (nI t), .int (nI c)] K RJ I (fun r I2 => r = some (.int (nI (tt_1 t c))) ∧ I2 = I) := by
  refine zi_of (by decide) (fun α => Nat.le_of_ble_eq_true rfl) (r_Mod_addTotal_0 l d _ _ ⟨?_, rfl⟩)
  rw [cr_shl ht, cr_and (by omega), show nI t >>> ((15 : Int32) &&& 31) = nI (t / 2 ^ 15) from zb_shr (j := 15) (by omega) (by omega), zb_or, zb_xor]
  rw [show t / 2 ^ 15 = t / 32768 from rfl, tt_or ht]
  rfl
end SM
