/-! Codes: how many before have the same length, the first code of a length, the code of a symbol. -/
def cd_n (ln : Nat → Nat) (len : Nat) : Nat → Nat
  | 0 => 0
  | k + 1 => cd_n ln len k + (if ln k = len then 1 else 0)
def cd_F (ln : Nat → Nat) (n : Nat) : Nat → Nat
  | 0 => 0
  | len + 1 => 2 * ((cd_F ln n len + cd_n ln len n) % 2 ^ len)
def cd_c (ln : Nat → Nat) (n s : Nat) : Nat := (cd_F ln n (ln s) + cd_n ln (ln s) s) % 2 ^ ln s
def cd_s (ln : Nat → Nat) (n : Nat) : Nat → Nat
  | 0 => 0
  | len + 1 => cd_s ln n len + (if len = 0 then 0 else cd_n ln len n)
/-- the first symbol, and one more, that has these bits -/
def cd_d (ln : Nat → Nat) (n bits len : Nat) : Nat → Nat
  | 0 => 0
  | k + 1 => if cd_d ln n bits len k = 0 then (if ln k = len ∧ cd_c ln n k = bits then k + 1 else 0) else cd_d ln n bits len k
theorem cd_n_succ (ln : Nat → Nat) (len k : Nat) : cd_n ln len (k + 1) = cd_n ln len k + (if ln k = len then 1 else 0) := rfl
theorem cd_F_succ (ln : Nat → Nat) (n len : Nat) : cd_F ln n (len + 1) = 2 * ((cd_F ln n len + cd_n ln len n) % 2 ^ len) := rfl
theorem cd_s_succ (ln : Nat → Nat) (n len : Nat) : cd_s ln n (len + 1) = cd_s ln n len + (if len = 0 then 0 else cd_n ln len n) := rfl
theorem cd_n_le (ln : Nat → Nat) (len : Nat) : ∀ k, cd_n ln len k ≤ k
  | 0 => Nat.le_refl _
  | k + 1 => by
    have := cd_n_le ln len k
    rw [cd_n_succ]
    split <;> omega
theorem cd_n_mono (ln : Nat → Nat) (len j : Nat) : ∀ i, cd_n ln len j ≤ cd_n ln len (j + i)
  | 0 => Nat.le_refl _
  | i + 1 => by
    have := cd_n_mono ln len j i
    rw [← Nat.add_assoc, cd_n_succ]
    omega
theorem cd_n_lt {ln : Nat → Nat} {len s k : Nat} (h : s < k) (e : ln s = len) : cd_n ln len s < cd_n ln len k := by
  have := cd_n_mono ln len (s + 1) (k - (s + 1))
  rw [show s + 1 + (k - (s + 1)) = k by omega, cd_n_succ, if_pos e] at this
  omega
theorem cd_F_lt (ln : Nat → Nat) (n : Nat) : ∀ len, cd_F ln n len < 2 ^ len
  | 0 => Nat.one_pos
  | len + 1 => by
    have := Nat.mod_lt (cd_F ln n len + cd_n ln len n) (Nat.two_pow_pos len)
    rw [cd_F_succ, Nat.pow_succ]
    omega
theorem cd_c_lt (ln : Nat → Nat) (n s : Nat) : cd_c ln n s < 2 ^ ln s := Nat.mod_lt _ (Nat.two_pow_pos _)
theorem cd_s_mono (ln : Nat → Nat) (n a : Nat) : ∀ i, cd_s ln n a ≤ cd_s ln n (a + i)
  | 0 => Nat.le_refl _
  | i + 1 => by
    have := cd_s_mono ln n a i
    rw [← Nat.add_assoc, cd_s_succ]
    omega
theorem cd_s_one (ln : Nat → Nat) (n : Nat) : ∀ L, cd_s ln (n + 1) L = cd_s ln n L + (if 1 ≤ ln n ∧ ln n < L then 1 else 0)
  | 0 => by simp [cd_s]
  | L + 1 => by
    rw [cd_s_succ, cd_s_succ, cd_s_one ln n L, cd_n_succ]
    by_cases h : L = 0
    · rw [if_pos h, if_pos h, if_neg (by omega), if_neg (by omega)]
    · rw [if_neg h, if_neg h]
      by_cases h1 : ln n = L
      · rw [if_pos h1, if_neg (by omega), if_pos (by omega)]
        omega
      · rw [if_neg h1]
        by_cases h2 : 1 ≤ ln n ∧ ln n < L
        · rw [if_pos h2, if_pos (by omega)]
          omega
        · rw [if_neg h2, if_neg (by omega)]
          omega
theorem cd_s_le (ln : Nat → Nat) (L : Nat) : ∀ n, cd_s ln n L ≤ n
  | 0 => by
    have : ∀ L, cd_s ln 0 L = 0 := by
      intro L
      induction L with
      | zero => rfl
      | succ L ih =>
        rw [cd_s_succ, ih]
        split <;> rfl
    rw [this]
    exact Nat.le_refl _
  | n + 1 => by
    have := cd_s_le ln L n
    rw [cd_s_one]
    split <;> omega
/-- where a symbol stands in the order -/
def cd_p (ln : Nat → Nat) (n s : Nat) : Nat := cd_s ln n (ln s) + cd_n ln (ln s) s
theorem cd_p_lt {ln : Nat → Nat} {n s : Nat} (h : s < n) (h1 : 1 ≤ ln s) : cd_p ln n s < n := by
  have a := cd_n_lt h (rfl : ln s = ln s)
  have b := cd_s_le ln (ln s + 1) n
  rw [cd_s_succ, if_neg (by omega)] at b
  unfold cd_p
  omega
theorem cd_p_ne {ln : Nat → Nat} {n s s2 : Nat} (h : s < s2) (h2 : s2 < n) (h1 : 1 ≤ ln s) (h3 : 1 ≤ ln s2) : cd_p ln n s ≠ cd_p ln n s2 := by
  unfold cd_p
  by_cases e : ln s = ln s2
  · have := cd_n_lt h e
    rw [e]
    omega
  · by_cases e2 : ln s < ln s2
    · have a := cd_n_lt (show s < n by omega) (rfl : ln s = ln s)
      have b := cd_s_mono ln n (ln s + 1) (ln s2 - (ln s + 1))
      rw [show ln s + 1 + (ln s2 - (ln s + 1)) = ln s2 by omega, cd_s_succ, if_neg (by omega)] at b
      omega
    · have a := cd_n_lt h2 (rfl : ln s2 = ln s2)
      have b := cd_s_mono ln n (ln s2 + 1) (ln s - (ln s2 + 1))
      rw [show ln s2 + 1 + (ln s - (ln s2 + 1)) = ln s by omega, cd_s_succ, if_neg (by omega)] at b
      omega
/-- the symbol of a length that has i of its length before it -/
theorem cd_ith {ln : Nat → Nat} {len i : Nat} : ∀ n, i < cd_n ln len n → ∃ s, s < n ∧ ln s = len ∧ cd_n ln len s = i
  | 0, h => absurd h (Nat.not_lt_zero _)
  | n + 1, h => by
    by_cases h1 : i < cd_n ln len n
    · obtain ⟨s, a, b, c⟩ := cd_ith n h1
      exact ⟨s, by omega, b, c⟩
    · rw [cd_n_succ] at h
      by_cases h2 : ln n = len
      · rw [if_pos h2] at h
        exact ⟨n, by omega, h2, by omega⟩
      · rw [if_neg h2] at h
        omega
theorem cd_d_none {ln : Nat → Nat} {n bits len : Nat} : ∀ k, (∀ s, s < k → ¬ (ln s = len ∧ cd_c ln n s = bits)) → cd_d ln n bits len k = 0
  | 0, _ => rfl
  | k + 1, h => by
    have := cd_d_none k (fun s hs => h s (by omega))
    show (if cd_d ln n bits len k = 0 then (if ln k = len ∧ cd_c ln n k = bits then k + 1 else 0) else cd_d ln n bits len k) = 0
    rw [if_pos this, if_neg (h k (by omega))]
theorem cd_d_keep {ln : Nat → Nat} {n bits len k : Nat} (h : cd_d ln n bits len k ≠ 0) : ∀ i, cd_d ln n bits len (k + i) = cd_d ln n bits len k
  | 0 => rfl
  | i + 1 => by
    have := cd_d_keep h i
    show (if cd_d ln n bits len (k + i) = 0 then (if ln (k + i) = len ∧ cd_c ln n (k + i) = bits then k + i + 1 else 0) else cd_d ln n bits len (k + i)) = _
    rw [if_neg (by omega), this]
theorem cd_d_some {ln : Nat → Nat} {n bits len s k : Nat} (hs : s < k) (h : ln s = len ∧ cd_c ln n s = bits) (hm : ∀ j, j < s → ¬ (ln j = len ∧ cd_c ln n j = bits)) : cd_d ln n bits len k = s + 1 := by
  have a : cd_d ln n bits len (s + 1) = s + 1 := by
    show (if cd_d ln n bits len s = 0 then (if ln s = len ∧ cd_c ln n s = bits then s + 1 else 0) else cd_d ln n bits len s) = s + 1
    rw [if_pos (cd_d_none s hm), if_pos h]
  have b := cd_d_keep (ln := ln) (n := n) (bits := bits) (len := len) (k := s + 1) (by omega) (k - (s + 1))
  rw [show s + 1 + (k - (s + 1)) = k by omega] at b
  omega
theorem cd_mod {F i M b : Nat} (hM : 0 < M) (hF : F < M) (hb : b < M) : (F + i) % M = b ↔ i % M = (b + M - F) % M := by
  have hi := Nat.mod_lt i hM
  have e1 : (F + i) % M = (F + i % M) % M := by rw [Nat.add_mod, Nat.mod_eq_of_lt hF]
  rw [e1]
  by_cases h1 : F ≤ b
  · rw [show b + M - F = (b - F) + M by omega, Nat.add_mod_right, Nat.mod_eq_of_lt (show b - F < M by omega)]
    by_cases h2 : F + i % M < M
    · rw [Nat.mod_eq_of_lt h2]
      omega
    · rw [Nat.mod_eq_sub_mod (by omega), Nat.mod_eq_of_lt (by omega)]
      omega
  · rw [Nat.mod_eq_of_lt (show b + M - F < M by omega)]
    by_cases h2 : F + i % M < M
    · rw [Nat.mod_eq_of_lt h2]
      omega
    · rw [Nat.mod_eq_sub_mod (by omega), Nat.mod_eq_of_lt (by omega)]
      omega
/-- what the class finds: by subtraction -/
theorem cd_d_eq {ln : Nat → Nat} {n bits len : Nat} (hb : bits < 2 ^ len) : (cd_n ln len n ≤ (bits + 2 ^ len - cd_F ln n len) % 2 ^ len ∧ cd_d ln n bits len n = 0) ∨ ∃ s, s < n ∧ ln s = len ∧ cd_n ln len s = (bits + 2 ^ len - cd_F ln n len) % 2 ^ len ∧ (bits + 2 ^ len - cd_F ln n len) % 2 ^ len < cd_n ln len n ∧ cd_d ln n bits len n = s + 1 := by
  have hM := Nat.two_pow_pos len
  have hF := cd_F_lt ln n len
  by_cases h : (bits + 2 ^ len - cd_F ln n len) % 2 ^ len < cd_n ln len n
  · obtain ⟨s, a, b, c⟩ := cd_ith n h
    refine Or.inr ⟨s, a, b, c, h, cd_d_some a ⟨b, ?_⟩ ?_⟩
    · unfold cd_c
      rw [b, c]
      exact (cd_mod hM hF hb).mpr (Nat.mod_mod _ _)
    · rintro j hj ⟨e1, e2⟩
      unfold cd_c at e2
      rw [e1] at e2
      have e3 := (cd_mod hM hF hb).mp e2
      have e4 := cd_n_lt hj e1
      rw [c] at e4
      rw [Nat.mod_eq_of_lt (Nat.lt_trans e4 (Nat.mod_lt _ hM))] at e3
      omega
  · refine Or.inl ⟨by omega, cd_d_none n ?_⟩
    rintro j hj ⟨e1, e2⟩
    unfold cd_c at e2
    rw [e1] at e2
    have e3 := (cd_mod hM hF hb).mp e2
    have e4 := cd_n_lt hj e1
    have e5 := Nat.mod_le (cd_n ln len j) (2 ^ len)
    omega
/-- the last code and its length, and the next one -/
def mc_st (c : Int32) (bf len nx : Nat) : Prop := 1 ≤ bf ∧ bf ≤ len ∧ ((c = -1 ∧ nx = 0) ∨ ∃ v, c = nI v ∧ v < 2 ^ bf ∧ nx = (v + 1) % 2 ^ bf * 2 ^ (len - bf))
theorem mc_up {c : Int32} {bf len nx : Nat} (h : mc_st c bf len nx) : mc_st c bf (len + 1) (2 * nx) := by
  obtain ⟨h1, h2, h3⟩ := h
  refine ⟨h1, by omega, ?_⟩
  rcases h3 with ⟨a, b⟩ | ⟨v, a, b, e⟩
  · exact Or.inl ⟨a, by omega⟩
  · refine Or.inr ⟨v, a, b, ?_⟩
    rw [e, show len + 1 - bf = (len - bf) + 1 by omega, Nat.pow_succ, Nat.mul_left_comm 2, Nat.mul_comm 2]
theorem mc_new {len nx : Nat} (h1 : 1 ≤ len) (h : nx < 2 ^ len) : mc_st (nI nx) len len ((nx + 1) % 2 ^ len) := ⟨h1, Nat.le_refl _, Or.inr ⟨nx, rfl, h, by rw [Nat.sub_self, Nat.pow_zero, Nat.mul_one]⟩⟩
theorem two_pow_12 {j : Nat} (h : j ≤ 12) : 2 ^ j ≤ 4096 := Nat.le_trans (Nat.pow_le_pow_right (by decide) h) (by decide)
section MC
variable {K : zx_Kt} {RJ : zx_RJ} {m t ks : Nat} {f : Nat → Nat} {I0 : zi_I}
def mc_I (m t n : Nat) (f : Nat → Nat) (I0 I : zi_I) (len k : Nat) : Prop := zf [m + 11] I0 I ∧ (∀ j, ¬ (260 * t ≤ j ∧ j < 260 * t + n) → I (m + 11) j = I0 (m + 11) j) ∧ ∀ s, s < n → 1 ≤ f s → (f s < len ∨ (f s = len ∧ s < k)) → I (m + 11) (260 * t + s) = nI (cd_c f n s)
theorem mc_put {n len k nx : Nat} {I : zi_I} (h : mc_I m t n f I0 I len k) (hk : k < n) (e : f k = len) (ev : nx = cd_c f n k) : mc_I m t n f I0 (zx_u2 I (m + 11) (260 * t + k) (nI nx)) len (k + 1) := by
  obtain ⟨h1, h2, h3⟩ := h
  refine ⟨zf_trans h1 (zf_u2 (by simp)), fun j hj => ?_, fun s hs hs1 hs2 => ?_⟩
  · rw [zx_u2_k (by omega)]
    exact h2 j hj
  · by_cases e2 : s = k
    · rw [e2, zx_u2_s, ev]
    · rw [zx_u2_k (by omega)]
      exact h3 s hs hs1 (by omega)
theorem t_mc17 (l : Launch) (d : Nat) {Q : zi_Q} {len : Nat} (g : g_Mod K RJ m) (ht : t < 4) (hk : ks ≤ 256) (h22 : I0 m 22 = nI ks) (hl1 : 1 ≤ len) (hl : len ≤ 12) (H : ∀ s, s < ks + 2 → ∀ len, 1 ≤ len → len ≤ 12 → (I0 (m + 10) (260 * t + s) = nI len ↔ f s = len)) :
    ∀ (j k : Nat) (I : zi_I) (c : Int32) (bf : Nat), k + j = ks + 2 → mc_I m t (ks + 2) f I0 I len k → mc_st c bf len ((cd_F f (ks + 2) len + cd_n f len k) % 2 ^ len) →
      (∀ I2 c2 bf2, mc_I m t (ks + 2) f I0 I2 len (ks + 2) → mc_st c2 bf2 len ((cd_F f (ks + 2) len + cd_n f len (ks + 2)) % 2 ^ len) → zi_X l (zx_rm d 0 0) M_Mod_makeCodes K RJ Q 7 [(0, .ref m), (1, .int (nI t)), (2, .int c2), (3, .int (nI bf2)), (4, .int (nI len + 1))] [] I2) →
      zi_X l (zx_rm d 0 0) M_Mod_makeCodes K RJ Q 17 [(0, .ref m), (1, .int (nI t)), (2, .int c), (3, .int (nI bf)), (4, .int (nI len)), (5, .int (nI k))] [] I := by
  intro j
  induction j with
  | zero =>
    intro k I c bf hkj hI hs q
    obtain rfl : k = ks + 2 := by omega
    have e22 : I m 22 = nI ks := by rw [zf_at hI.1 (by simp)]; exact h22
    refine r_Mod_makeCodes_17 l d m _ _ _ _ _ g.1 g.lengthsR (by omega) g.lengthsK g.codesR (by omega) g.codesK ⟨fun _ => q I c bf hI hs, fun c => ?_⟩
    rw [e22, show (2 : Int32) = nI 2 from rfl, nI_add, nI_leI (by omega) (by omega)] at c
    omega
  | succ j ih =>
    intro k I c bf hkj hI hs q
    have e22 : I m 22 = nI ks := by rw [zf_at hI.1 (by simp)]; exact h22
    have ej : (260 : Int32) * nI t + nI k = nI (260 * t + k) := by rw [show (260 : Int32) = nI 260 from rfl, pk_mul, nI_add]
    have el : I (m + 10) (260 * t + k) = I0 (m + 10) (260 * t + k) := zf_at hI.1 (by simp) _
    have hp := two_pow_12 hl
    refine r_Mod_makeCodes_17 l d m _ _ _ _ _ g.1 g.lengthsR (by omega) g.lengthsK g.codesR (by omega) g.codesK ⟨fun c => ?_, fun _ => ⟨260 * t + k, ej, by omega, fun c => ?_, fun c => ?_⟩⟩
    · rw [e22, show (2 : Int32) = nI 2 from rfl, nI_add, nI_leI (by omega) (by omega)] at c
      omega
    · rw [el, H k (by omega) len hl1 hl] at c
      rw [nI_1]
      refine ih (k + 1) I _ bf (by omega) ⟨hI.1, hI.2.1, fun s hs hs1 hs2 => hI.2.2 s hs hs1 (by
        rcases hs2 with h | ⟨h, h2⟩
        · exact Or.inl h
        · refine Or.inr ⟨h, ?_⟩
          by_cases e : s = k
          · exact absurd (e ▸ h) c
          · omega)⟩ ?_ q
      rw [cd_n_succ, if_neg c]
      exact hs
    · rw [el, H k (by omega) len hl1 hl] at c
      obtain ⟨h1, h2, h3⟩ := hs
      have en : (cd_F f (ks + 2) len + cd_n f len k) % 2 ^ len = cd_c f (ks + 2) k := by
        unfold cd_c
        rw [c]
      have enx : mc_st (nI ((cd_F f (ks + 2) len + cd_n f len k) % 2 ^ len)) len len ((cd_F f (ks + 2) len + cd_n f len (k + 1)) % 2 ^ len) := by
        have := mc_new hl1 (Nat.mod_lt (cd_F f (ks + 2) len + cd_n f len k) (Nat.two_pow_pos len))
        rw [Nat.mod_add_mod] at this
        rw [cd_n_succ, if_pos c, ← Nat.add_assoc]
        exact this
      refine ⟨fun c0 => ?_, fun c0 => ?_⟩
      · rcases h3 with ⟨a, _⟩ | ⟨v, a, b, e⟩
        · rw [a] at c0
          exact absurd c0 (by decide)
        · have hq := two_pow_12 (show bf ≤ 12 by omega)
          have e1 : (1 : Int32) <<< (nI bf &&& 31) = nI (2 ^ bf) := by
            have := zb_shl (n := 1) (j := bf) (by omega) (by omega)
            rw [Nat.one_mul] at this
            exact this
          have hpb := Nat.two_pow_pos bf
          have e2 : (nI (v + 1) - nI (v + 1) / nI (2 ^ bf) * nI (2 ^ bf)) = nI ((v + 1) % 2 ^ bf) := pk_rem (d := 2 ^ bf) (by omega) (by omega) (by omega)
          have hmul : (v + 1) % 2 ^ bf * 2 ^ (len - bf) < 2 ^ 32 := by
            have h5 : (v + 1) % 2 ^ bf * 2 ^ (len - bf) ≤ 4096 * 4096 := Nat.mul_le_mul (Nat.le_trans (Nat.le_of_lt (Nat.mod_lt _ hpb)) hq) (two_pow_12 (by omega))
            omega
          have e3 : nI ((v + 1) % 2 ^ bf) <<< ((nI len - nI bf) &&& 31) = nI ((cd_F f (ks + 2) len + cd_n f len k) % 2 ^ len) := by
            rw [pk_sub h2, zb_shl (by omega) hmul, e]
          refine ⟨fun z => ?_, 260 * t + k, ej, by omega, ?_⟩
          · rw [e1, show (0 : Int32) = nI 0 from rfl, nI_eq (by omega) (by omega)] at z
            omega
          · rw [a, e1, nI_1, e2, e3, nI_1]
            exact ih (k + 1) _ _ len (by omega) (mc_put hI (by omega) c en) enx q
      · rcases h3 with ⟨_, b⟩ | ⟨v, a, b, e⟩
        · refine ⟨260 * t + k, ej, by omega, ?_⟩
          rw [nI_1, show (0 : Int32) = nI ((cd_F f (ks + 2) len + cd_n f len k) % 2 ^ len) by rw [b]; rfl]
          exact ih (k + 1) _ _ len (by omega) (mc_put hI (by omega) c en) enx q
        · have hq := two_pow_12 (show bf ≤ 12 by omega)
          rw [a] at c0
          exact absurd (nI_pos' (by omega)) c0
theorem t_mc7 (l : Launch) (d : Nat) {Q : zi_Q} (g : g_Mod K RJ m) (ht : t < 4) (hk : ks ≤ 256) (h22 : I0 m 22 = nI ks) (H : ∀ s, s < ks + 2 → ∀ len, 1 ≤ len → len ≤ 12 → (I0 (m + 10) (260 * t + s) = nI len ↔ f s = len)) (q : ∀ I2, mc_I m t (ks + 2) f I0 I2 13 0 → Q none I2) :
    ∀ (j len : Nat) (I : zi_I) (c : Int32) (bf : Nat), len + j = 13 → 1 ≤ len → mc_I m t (ks + 2) f I0 I len 0 → mc_st c bf len (cd_F f (ks + 2) len) →
      zi_X l (zx_rm d 0 0) M_Mod_makeCodes K RJ Q 7 [(0, .ref m), (1, .int (nI t)), (2, .int c), (3, .int (nI bf)), (4, .int (nI len))] [] I := by
  intro j
  induction j with
  | zero =>
    intro len I c bf hj h1 hI hs
    obtain rfl : len = 13 := by omega
    refine r_Mod_makeCodes_7 l d m _ _ _ _ ⟨fun _ => q I hI, fun c => ?_⟩
    exact absurd (show (12 : Int32) < nI 13 by decide) c
  | succ j ih =>
    intro len I c bf hj h1 hI hs
    refine r_Mod_makeCodes_7 l d m _ _ _ _ ⟨fun c => ?_, fun _ => ?_⟩
    · rw [show (12 : Int32) = nI 12 from rfl, nI_ltI (by omega) (by omega)] at c
      omega
    · have hF := cd_F_lt f (ks + 2) len
      refine t_mc17 (len := len) (I0 := I0) (f := f) l d g ht hk h22 h1 (by omega) H (ks + 2) 0 I c bf (by omega) hI ?_ (fun I2 c2 bf2 y1 y2 => ?_)
      · show mc_st c bf len ((cd_F f (ks + 2) len + 0) % 2 ^ len)
        rw [Nat.add_zero, Nat.mod_eq_of_lt hF]
        exact hs
      · rw [nI_1]
        refine ih (len + 1) I2 c2 bf2 (by omega) (by omega) ⟨y1.1, y1.2.1, fun s hs hs1 hs2 => y1.2.2 s hs hs1 (by omega)⟩ ?_
        exact mc_up y2
theorem c_makeCodes (l : Launch) (d : Nat) (g : g_Mod K RJ m) (ht : t < 4) (hk : ks ≤ 256) (h22 : I0 m 22 = nI ks) (H : ∀ s, s < ks + 2 → ∀ len, 1 ≤ len → len ≤ 12 → (I0 (m + 10) (260 * t + s) = nI len ↔ f s = len)) :
    zi_C l (zx_rm d 0 0) M_Mod_makeCodes [.ref m, .int (nI t)] K RJ I0 (fun r I2 => r = none ∧ zf [m + 11] I0 I2 ∧ (∀ j, ¬ (260 * t ≤ j ∧ j < 260 * t + (ks + 2)) → I2 (m + 11) j = I0 (m + 11) j) ∧ ∀ s, s < ks + 2 → 1 ≤ f s → f s ≤ 12 → I2 (m + 11) (260 * t + s) = nI (cd_c f (ks + 2) s)) := by
  refine zi_of (by decide) (fun α => Nat.le_of_ble_eq_true rfl) (r_Mod_makeCodes_0 l d m _ (t_mc7 (I0 := I0) (f := f) l d g ht hk h22 H (fun I2 h => ⟨rfl, h.1, h.2.1, fun s hs h1 h2 => h.2.2 s hs h1 (by omega)⟩) 12 1 I0 (-1) 1 (by omega) (by omega) ⟨zf_refl, fun _ _ => rfl, fun s hs h1 h2 => absurd h2 (by omega)⟩ ⟨by omega, by omega, Or.inl ⟨rfl, ?_⟩⟩))
  show 2 * ((0 + cd_n f 0 (ks + 2)) % 2 ^ 0) = 0
  rw [Nat.pow_zero, Nat.mod_one]
theorem t_dec (l : Launch) (d : Nat) {Q : zi_Q} {I : zi_I} {bits len : Nat} (g : g_Mod K RJ m) (ht : t < 4) (hk : ks ≤ 256) (h22 : I m 22 = nI ks) (hb : bits < 2 ^ 20) (hf : ∀ s, s < ks + 2 → f s ≤ 12) (hlen : len < 2 ^ 20) (hl : a_Tb I m t (ks + 2) f) (hc : ∀ s, s < ks + 2 → I (m + 11) (260 * t + s) = nI (cd_c f (ks + 2) s)) (q : Q (some (.int (hf_v (cd_d f (ks + 2) bits len (ks + 2))))) I) :
    ∀ (j k : Nat), k + j = ks + 2 → cd_d f (ks + 2) bits len k = 0 → zi_X l (zx_rm d 0 0) M_Mod_decode K RJ Q 3 [(0, .ref m), (1, .int (nI t)), (2, .int (nI bits)), (3, .int (nI len)), (4, .int (nI k))] [] I := by
  intro j
  induction j with
  | zero =>
    intro k hkj h0
    obtain rfl : k = ks + 2 := by omega
    rw [h0] at q
    refine r_Mod_decode_3 l d m _ _ _ _ g.1 g.lengthsR (by omega) g.lengthsK g.codesR (by omega) g.codesK ⟨fun _ => q, fun c => ?_⟩
    rw [h22, show (2 : Int32) = nI 2 from rfl, nI_add, nI_leI (by omega) (by omega)] at c
    omega
  | succ j ih =>
    intro k hkj h0
    have ej : (260 : Int32) * nI t + nI k = nI (260 * t + k) := by rw [show (260 : Int32) = nI 260 from rfl, pk_mul, nI_add]
    have e1 : cd_d f (ks + 2) bits len (k + 1) = if cd_d f (ks + 2) bits len k = 0 then (if f k = len ∧ cd_c f (ks + 2) k = bits then k + 1 else 0) else cd_d f (ks + 2) bits len k := rfl
    rw [if_pos h0] at e1
    have hfk := hf k (by omega)
    have hck := Nat.lt_of_lt_of_le (cd_c_lt f (ks + 2) k) (two_pow_12 hfk)
    refine r_Mod_decode_3 l d m _ _ _ _ g.1 g.lengthsR (by omega) g.lengthsK g.codesR (by omega) g.codesK ⟨fun c => ?_, fun _ => ⟨260 * t + k, ej, by omega, fun c => ?_, fun c => ⟨260 * t + k, ej, by omega, fun c2 => ?_, fun c2 => ?_⟩⟩⟩
    · rw [h22, show (2 : Int32) = nI 2 from rfl, nI_add, nI_leI (by omega) (by omega)] at c
      omega
    · rw [hl k (by omega), nI_eq (by omega) (by omega)] at c
      rw [nI_1]
      refine ih (k + 1) (by omega) ?_
      rw [e1, if_neg (fun z => c z.1)]
    · rw [hc k (by omega), nI_eq (by omega) (by omega)] at c2
      rw [nI_1]
      refine ih (k + 1) (by omega) ?_
      rw [e1, if_neg (fun z => c2 z.2)]
    · rw [hl k (by omega), nI_eq (by omega) (by omega)] at c
      rw [hc k (by omega), nI_eq (by omega) (by omega)] at c2
      rw [if_pos ⟨c, c2⟩] at e1
      have e2 := cd_d_keep (ln := f) (n := ks + 2) (bits := bits) (len := len) (k := k + 1) (by omega) j
      rw [show k + 1 + j = ks + 2 by omega, e1] at e2
      rw [e2] at q
      exact q
theorem c_decode (l : Launch) (d : Nat) {I : zi_I} {bits len : Nat} (g : g_Mod K RJ m) (ht : t < 4) (hk : ks ≤ 256) (h22 : I m 22 = nI ks) (hb : bits < 2 ^ 20) (hf : ∀ s, s < ks + 2 → f s ≤ 12) (hlen : len < 2 ^ 20) (hl : a_Tb I m t (ks + 2) f) (hc : ∀ s, s < ks + 2 → I (m + 11) (260 * t + s) = nI (cd_c f (ks + 2) s)) :
    zi_C l (zx_rm d 0 0) M_Mod_decode [.ref m, .int (nI t), .int (nI bits), .int (nI len)] K RJ I (fun r I2 => r = some (.int (hf_v (cd_d f (ks + 2) bits len (ks + 2)))) ∧ I2 = I) :=
  zi_of (by decide) (fun α => Nat.le_of_ble_eq_true rfl) (r_Mod_decode_0 l d m _ _ _ (t_dec (Q := fun r I2 => r = some (.int (hf_v (cd_d f (ks + 2) bits len (ks + 2)))) ∧ I2 = I) l d g ht hk h22 hb hf hlen hl hc ⟨rfl, rfl⟩ (ks + 2) 0 (by omega) rfl))
end MC
