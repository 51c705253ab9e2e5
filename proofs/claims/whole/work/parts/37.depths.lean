/-! LENGTHS by the reference: the depths. -/
theorem hf_up {n : Nat} {w0 : Nat → Nat} (hn : 0 < n) (hn2 : 2 * n ≤ 1000000) : ∀ i, i < n → ∀ k, (hf_st n w0 i).2 k = 0 ∨ (k < (hf_st n w0 i).2 k ∧ n ≤ (hf_st n w0 i).2 k ∧ (hf_st n w0 i).2 k < n + i)
  | 0, _, k => Or.inl rfl
  | i + 1, h, k => by
    have ok := hf_st_ok hn hn2 (w0 := w0) rfl i (by omega)
    obtain ⟨-, -, ha, hb⟩ := hf_two ok (by omega) (by omega)
    have hal := ha.1
    have hbl := hb.1
    have ih := hf_up (w0 := w0) hn hn2 i (by omega) k
    show va_up (va_up (hf_st n w0 i).2 (hf_a (hf_st n w0 i) (n + i)) (n + i)) (hf_b (hf_st n w0 i) (n + i)) (n + i) k = 0 ∨ _
    have e : (hf_st n w0 (i + 1)).2 k = va_up (va_up (hf_st n w0 i).2 (hf_a (hf_st n w0 i) (n + i)) (n + i)) (hf_b (hf_st n w0 i) (n + i)) (n + i) k := rfl
    rw [e]
    by_cases e1 : k = hf_b (hf_st n w0 i) (n + i)
    · rw [e1, va_up_s]
      right
      omega
    · rw [va_up_n e1]
      by_cases e2 : k = hf_a (hf_st n w0 i) (n + i)
      · rw [e2, va_up_s]
        right
        omega
      · rw [va_up_n e2]
        omega
theorem hf_d_le (into : Nat → Nat) : ∀ e k, hf_d into e k ≤ e
  | 0, _ => Nat.le_refl _
  | e + 1, k => by
    have := hf_d_le into e (into k)
    unfold hf_d
    split <;> omega
/-- the lengths that weights w0 of n symbols make -/
def hf_len (n : Nat) (w0 : Nat → Nat) (s : Nat) : Nat := hf_d (hf_st n w0 (n - 1)).2 (2 * n) s
section ML4
variable {K : zx_Kt} {RJ : zx_RJ} {m n : Nat} {into : Nat → Nat}
theorem t_ml124 (l : Launch) (d : Nat) {t s : Nat} {x3 : Int32} {Q : zi_Q} (g : g_Mod K RJ m) (ht : t < 4) (hs : s < n) (hn : n ≤ 258) {I : zi_I} {D : Nat} (a : ∀ k, k < 2 * n - 1 → I (m + 16) k = (if into k = 0 then -1 else nI (into k))) (hu : ∀ k, k < 2 * n - 1 → into k < 2 * n - 1)
    (q : zi_X l (zx_rm (d + 1) 0 0) M_Mod_makeLengths K RJ Q 106 [(0, .ref m), (1, .int (nI t)), (2, .int (nI n)), (3, .int x3), (4, .int (nI (s + 1)))] [] (zx_u2 I (m + 10) (260 * t + s) (nI D))) :
    ∀ e k c, k < 2 * n - 1 → 2 * n ≤ e + k → (∀ k, into k = 0 ∨ k < into k) → c + hf_d into e k = D → zi_X l (zx_rm (d + 1) 0 0) M_Mod_makeLengths K RJ Q 124 [(0, .ref m), (1, .int (nI t)), (2, .int (nI n)), (3, .int x3), (4, .int (nI s)), (5, .int (nI c)), (6, .int (I (m + 16) k))] [] I := by
  intro e
  induction e with
  | zero =>
    intro k c hk he
    omega
  | succ e ih =>
    intro k c hk he hup hD
    refine r_Mod_makeLengths_124 l d m _ _ _ _ _ _ g.1 g.lengthsR (by omega) g.lengthsK g.intoR (by omega) g.intoK ⟨fun c1 => ?_, fun c1 => ?_⟩
    · have h0 : into k = 0 := Decidable.byContradiction (fun h => by
        rw [a k hk, if_neg h] at c1
        have := hu k hk
        exact absurd c1 (nI_pos (by omega)))
      have : c = D := by
        rw [← hD]
        show c = c + (if into k = 0 then 0 else _)
        rw [if_pos h0]
        rfl
      refine ⟨260 * t + s, by rw [show (260 : Int32) = nI 260 from rfl, pk_mul, nI_add], by omega, ?_⟩
      rw [nI_1, this]
      exact q
    · have h0 : into k ≠ 0 := fun h => c1 (by rw [a k hk, if_pos h]; decide)
      have hk2 := hu k hk
      have hk3 := (hup k).resolve_left h0
      refine ⟨into k, by rw [a k hk, if_neg h0], by omega, ?_⟩
      rw [nI_1]
      refine ih (into k) (c + 1) hk2 (by omega) hup ?_
      rw [← hD]
      show _ = c + (if into k = 0 then 0 else hf_d into e (into k) + 1)
      rw [if_neg h0]
      omega
theorem t_ml106 (l : Launch) (d : Nat) {t : Nat} {x3 : Int32} {Q : zi_Q} (g : g_Mod K RJ m) (ht : t < 4) (hn : n ≤ 258) {I : zi_I} (a : ∀ k, k < 2 * n - 1 → I (m + 16) k = (if into k = 0 then -1 else nI (into k))) (hu : ∀ k, k < 2 * n - 1 → into k < 2 * n - 1) (hup : ∀ k, into k = 0 ∨ k < into k)
    (q : Q none (fun c i => if c = m + 10 ∧ 260 * t ≤ i ∧ i < 260 * t + n then nI (hf_d into (2 * n) (i - 260 * t)) else I c i)) :
    ∀ j s, s + j = n → zi_X l (zx_rm (d + 1) 0 0) M_Mod_makeLengths K RJ Q 106 [(0, .ref m), (1, .int (nI t)), (2, .int (nI n)), (3, .int x3), (4, .int (nI s))] [] (fun c i => if c = m + 10 ∧ 260 * t ≤ i ∧ i < 260 * t + s then nI (hf_d into (2 * n) (i - 260 * t)) else I c i) := by
  intro j
  induction j with
  | zero =>
    intro s hs
    obtain rfl : s = n := by omega
    refine r_Mod_makeLengths_106 l d m _ _ _ _ g.1 g.intoR (by omega) g.intoK ⟨fun _ => q, fun c => ?_⟩
    rw [nI_leI (by omega) (by omega)] at c
    omega
  | succ j ih =>
    intro s hs
    refine r_Mod_makeLengths_106 l d m _ _ _ _ g.1 g.intoR (by omega) g.intoK ⟨fun c => ?_, fun _ => ⟨s, rfl, by omega, ?_⟩⟩
    · rw [nI_leI (by omega) (by omega)] at c
      omega
    · refine t_ml124 (into := into) (D := hf_d into (2 * n) s) (t := t) (s := s) (n := n) l d g ht (by omega) hn ?_ hu ?_ (2 * n) s 0 (by omega) (by omega) hup (by omega)
      · intro k hk
        rw [if_neg (by omega)]
        exact a k hk
      · refine zx_eq rfl rfl rfl ?_ (ih (s + 1) (by omega))
        congr 2
        funext c i
        unfold zx_u2
        by_cases h1 : c = m + 10
        · by_cases h2 : i = 260 * t + s
          · simp [h1, h2]
          · have : (i < 260 * t + (s + 1)) ↔ (i < 260 * t + s) := by omega
            simp [h1, h2, this]
        · simp [h1]
theorem c_makeLengths (l : Launch) (d : Nat) {t ks S : Nat} {w0 : Nat → Nat} {I : zi_I} (g : g_Mod K RJ m) (ht : t < 4) (hk : ks ≤ 256) (hk2 : I m 22 = nI ks) (hw : ∀ k, k < ks + 2 → I (m + 15) k = nI (w0 k)) (hS : hf_f w0 (fun _ => 0) (ks + 2) = S) (hS2 : S < 2 ^ 20) :
    zi_C l (zx_rm (d + 1) 0 0) M_Mod_makeLengths [.ref m, .int (nI t)] K RJ I (fun r I2 => r = none ∧ (∀ i, I2 (m + 10) i = if 260 * t ≤ i ∧ i < 260 * t + (ks + 2) then nI (hf_len (ks + 2) w0 (i - 260 * t)) else I (m + 10) i) ∧ zg m [] [m + 10, m + 15, m + 16] I I2) := by
  have hw2 : ∀ k, k < ks + 2 → w0 k < 2 ^ 20 := fun k hk => by
    have := hf_f_le (w := w0) (into := fun _ => 0) (a := k) rfl (ks + 2) hk
    omega
  refine zi_of (by decide) (fun α => Nat.le_of_ble_eq_true rfl) (r_Mod_makeLengths_0 l d m _ g.1 ?_)
  rw [hk2, show (2 : Int32) = nI 2 from rfl, nI_add]
  have h0 := t_ml12 (K := K) (RJ := RJ) (x1 := nI t) (x3 := nI (ks + 2)) (n := ks + 2) (Q := fun r I2 => r = none ∧ (∀ i, I2 (m + 10) i = if 260 * t ≤ i ∧ i < 260 * t + (ks + 2) then nI (hf_len (ks + 2) w0 (i - 260 * t)) else I (m + 10) i) ∧ zg m [] [m + 10, m + 15, m + 16] I I2) l d g (by omega) I ?_ (2 * (ks + 2)) 0 (by omega)
  · refine zx_eq rfl rfl rfl ?_ h0
    congr 2
    funext c i
    rw [if_neg (by omega)]
  · intro x4
    have g0 : zg m [] [m + 10, m + 15, m + 16] I (fun c i => if c = m + 16 ∧ i < 2 * (ks + 2) then -1 else I c i) := ⟨fun j _ => by
      show (if m = m + 16 ∧ j < 2 * (ks + 2) then (-1 : Int32) else I m j) = I m j
      rw [if_neg (by omega)], fun q hq => by
      funext i
      show (if q = m + 16 ∧ i < 2 * (ks + 2) then (-1 : Int32) else I q i) = I q i
      rw [if_neg (fun z => hq (by simp [z.1]))]⟩
    refine t_ml34 (n := ks + 2) (w0 := w0) (S := S) (x1 := nI t) l d g (by omega) (by omega) hS hS2 (ks + 2 - 1) 0 _ x4 (by omega) ⟨fun k hk => ?_, fun k hk => ?_⟩ (fun k h1 h2 => ?_) (fun I2 a2 z2 => ?_)
    · show (if m + 15 = m + 16 ∧ k < 2 * (ks + 2) then (-1 : Int32) else I (m + 15) k) = nI (w0 k) ∧ w0 k < 2 ^ 20
      rw [if_neg (by omega)]
      exact ⟨hw k hk, hw2 k hk⟩
    · show (if m + 16 = m + 16 ∧ k < 2 * (ks + 2) then (-1 : Int32) else I (m + 16) k) = (if (0 : Nat) = 0 then -1 else nI 0) ∧ 0 < 2 ^ 20
      rw [if_pos (by omega), if_pos rfl]
      exact ⟨rfl, by decide⟩
    · show (if m + 16 = m + 16 ∧ k < 2 * (ks + 2) then (-1 : Int32) else I (m + 16) k) = -1
      rw [if_pos (by omega)]
    · have g2 := zg_trans g0 (zg_mono z2 (by simp) (by simp))
      have hup := hf_up (n := ks + 2) (w0 := w0) (by omega) (by omega) (ks + 2 - 1) (by omega)
      have hok := hf_st_ok (n := ks + 2) (w0 := w0) (by omega) (by omega) hS (ks + 2 - 1) (by omega)
      have htop : ∀ k, k < 2 * (ks + 2) - 1 → I2 (m + 16) k = (if (hf_st (ks + 2) w0 (ks + 2 - 1)).2 k = 0 then -1 else nI ((hf_st (ks + 2) w0 (ks + 2 - 1)).2 k)) := fun k hk => (a2.2 k hk).1
      have h1 := t_ml106 (t := t) (n := ks + 2) (x3 := nI (2 * (ks + 2) - 1)) (into := (hf_st (ks + 2) w0 (ks + 2 - 1)).2) (Q := fun r I2 => r = none ∧ (∀ i, I2 (m + 10) i = if 260 * t ≤ i ∧ i < 260 * t + (ks + 2) then nI (hf_len (ks + 2) w0 (i - 260 * t)) else I (m + 10) i) ∧ zg m [] [m + 10, m + 15, m + 16] I I2) l d g ht (by omega) htop (fun k hk => by have := hup k; omega) (fun k => by have := hup k; omega) ⟨rfl, fun i => ?_, ?_⟩ (ks + 2) 0 (by omega)
      · refine zx_eq rfl rfl rfl ?_ h1
        congr 2
        funext c i
        rw [if_neg (by omega)]
      · show (if m + 10 = m + 10 ∧ _ then _ else I2 (m + 10) i) = _
        by_cases h : 260 * t ≤ i ∧ i < 260 * t + (ks + 2)
        · rw [if_pos ⟨rfl, h⟩, if_pos h]
          rfl
        · rw [if_neg (fun z => h z.2), if_neg h]
          have e1 := zg_cell z2 (q := m + 10) (by omega) (by simp) i
          rw [e1]
          show (if m + 10 = m + 16 ∧ i < 2 * (ks + 2) then (-1 : Int32) else I (m + 10) i) = I (m + 10) i
          rw [if_neg (by omega)]
      · refine zg_trans g2 ⟨fun j _ => ?_, fun q hq => ?_⟩
        · show (if m = m + 10 ∧ _ then _ else I2 m j) = I2 m j
          rw [if_neg (by omega)]
        · funext i
          show (if q = m + 10 ∧ _ then _ else I2 q i) = I2 q i
          rw [if_neg (fun z => hq (by simp [z.1]))]
end ML4
