/-! No length is above 9. -/
def hf_g : Nat → Nat
  | 0 => 1
  | 1 => 2
  | d + 2 => hf_g (d + 1) + hf_g d
theorem hf_g_up : ∀ d, hf_g d ≤ hf_g (d + 1)
  | 0 => by decide
  | d + 1 => by
    show hf_g (d + 1) ≤ hf_g (d + 1) + hf_g d
    omega
theorem hf_g_mono {a : Nat} : ∀ b, a ≤ b → hf_g a ≤ hf_g b
  | 0, h => by rw [show a = 0 by omega]; exact Nat.le_refl _
  | b + 1, h => by
    by_cases e : a = b + 1
    · rw [e]
      exact Nat.le_refl _
    · exact Nat.le_trans (hf_g_mono b (by omega)) (hf_g_up b)
/-- grown: what was joined weighs so much -/
def hf_gr (s : (Nat → Nat) × (Nat → Nat)) (t : Nat) : Prop := (∀ k, k < t → 1 ≤ s.1 k) ∧ (∀ k, k < t → s.2 k ≠ 0 → s.1 k + 1 ≤ s.1 (s.2 k)) ∧ (∀ k, k < t → s.2 k ≠ 0 → s.2 (s.2 k) ≠ 0 → s.1 (s.2 k) + s.1 k ≤ s.1 (s.2 (s.2 k))) ∧ ∀ k, k < t → s.2 k ≠ 0 → s.2 (s.2 k) = 0 → ∀ y, y < t → s.2 y = 0 → y ≠ s.2 k → s.1 k ≤ s.1 y
theorem hf_gr_j {s : (Nat → Nat) × (Nat → Nat)} {t c S : Nat} (ok : hf_ok s t (c + 2) S) (ht : t ≤ 1000000) (ht0 : 0 < t) (h : hf_gr s t) : hf_gr (hf_j s t) (t + 1) := by
  obtain ⟨-, -, ha, hb⟩ := hf_two ok (by omega) ht
  obtain ⟨k1, k2, k3, k4, k5⟩ := ok
  obtain ⟨h1, h2, h3, h4⟩ := h
  have hal := ha.1
  have hbl := hb.1
  have hab : hf_b s t ≠ hf_a s t := hb.2.1.2
  have a0 : s.2 (hf_a s t) = 0 := ha.2.1
  have b0 : s.2 (hf_b s t) = 0 := hb.2.1.1
  have wa := h1 _ hal
  have wb := h1 _ hbl
  have wab := ha.2.2 _ hbl b0
  have ew : ∀ k, k ≠ t → (hf_j s t).1 k = s.1 k := fun k hk => va_up_n hk
  have et : (hf_j s t).1 t = s.1 (hf_a s t) + s.1 (hf_b s t) := va_up_s
  have ea : (hf_j s t).2 (hf_a s t) = t := by
    show va_up (va_up s.2 (hf_a s t) t) (hf_b s t) t (hf_a s t) = t
    rw [va_up_n (Ne.symm hab), va_up_s]
  have eb : (hf_j s t).2 (hf_b s t) = t := va_up_s
  have eo : ∀ k, k ≠ hf_a s t → k ≠ hf_b s t → (hf_j s t).2 k = s.2 k := fun k x1 x2 => by
    show va_up (va_up s.2 (hf_a s t) t) (hf_b s t) t k = s.2 k
    rw [va_up_n x2, va_up_n x1]
  have tt : (hf_j s t).2 t = 0 := by
    rw [eo t (by omega) (by omega)]
    exact k3 t (Nat.le_refl _)
  have free : ∀ y, y < t → (hf_j s t).2 y = 0 → s.2 y = 0 ∧ y ≠ hf_a s t ∧ y ≠ hf_b s t := fun y hy h0 => by
    by_cases e1 : y = hf_a s t
    · rw [e1, ea] at h0
      omega
    · by_cases e2 : y = hf_b s t
      · rw [e2, eb] at h0
        omega
      · rw [eo y e1 e2] at h0
        exact ⟨h0, e1, e2⟩
  have big : ∀ y, y < t → (hf_j s t).2 y = 0 → s.1 (hf_b s t) ≤ s.1 y := fun y hy h0 => by
    obtain ⟨y1, y2, y3⟩ := free y hy h0
    have := hb.2.2 y hy ⟨y1, y2⟩
    omega
  have kt : ∀ k, k < t + 1 → (hf_j s t).2 k ≠ 0 → k < t := fun k hk h0 => by
    have : k ≠ t := fun e => h0 (by rw [e]; exact tt)
    omega
  refine ⟨fun k hk => ?_, fun k hk h0 => ?_, fun k hk h0 h00 => ?_, fun k hk h0 h00 y hy y0 hne => ?_⟩
  · by_cases e : k = t
    · rw [e, et]
      omega
    · rw [ew k e]
      exact h1 k (by omega)
  · have hk' := kt k hk h0
    rw [ew k (by omega)]
    by_cases e1 : k = hf_a s t
    · rw [e1, ea, et]
      omega
    · by_cases e2 : k = hf_b s t
      · rw [e2, eb, et]
        omega
      · rw [eo k e1 e2] at h0 ⊢
        have := k5 k hk'
        rw [ew _ (by omega)]
        exact h2 k hk' h0
  · have hk' := kt k hk h0
    by_cases e1 : k = hf_a s t
    · rw [e1, ea] at h00
      exact absurd tt h00
    · by_cases e2 : k = hf_b s t
      · rw [e2, eb] at h00
        exact absurd tt h00
      · rw [eo k e1 e2] at h0 h00 ⊢
        have hj := k5 k hk'
        rw [ew k (by omega), ew (s.2 k) (by omega)]
        by_cases e3 : s.2 k = hf_a s t
        · have := h4 k hk' h0 (by rw [e3]; exact a0) _ hbl b0 (by rw [e3]; exact hab)
          rw [e3, ea, et]
          omega
        · by_cases e4 : s.2 k = hf_b s t
          · have := h4 k hk' h0 (by rw [e4]; exact b0) _ hal a0 (by rw [e4]; exact Ne.symm hab)
            rw [e4, eb, et]
            omega
          · rw [eo _ e3 e4] at h00 ⊢
            have hm := k5 (s.2 k) (by omega)
            rw [ew _ (by omega)]
            exact h3 k hk' h0 h00
  · have hk' := kt k hk h0
    rw [ew k (by omega)]
    by_cases e1 : k = hf_a s t
    · rw [e1, ea] at hne
      have := big y (by omega) y0
      rw [ew y (by omega), e1]
      omega
    · by_cases e2 : k = hf_b s t
      · rw [e2, eb] at hne
        have := big y (by omega) y0
        rw [ew y (by omega), e2]
        omega
      · rw [eo k e1 e2] at h0 h00 hne
        have hj := k5 k hk'
        obtain ⟨f1, f2, f3⟩ := free (s.2 k) (by omega) h00
        by_cases e3 : y = t
        · have := h4 k hk' h0 f1 _ hal a0 (Ne.symm f2)
          rw [e3, et]
          omega
        · obtain ⟨y1, y2, y3⟩ := free y (by omega) y0
          rw [ew y e3]
          exact h4 k hk' h0 f1 y (by omega) y1 hne
theorem hf_gr_st {n : Nat} {w0 : Nat → Nat} (hn : 0 < n) (hn2 : 2 * n ≤ 1000000) (hw : ∀ k, k < n → 1 ≤ w0 k) : ∀ i, i < n → hf_gr (hf_st n w0 i) (n + i)
  | 0, _ => ⟨hw, fun k hk h => absurd rfl h, fun k hk h => absurd rfl h, fun k hk h => absurd rfl h⟩
  | i + 1, h => by
    have ok := hf_st_ok (w0 := w0) hn hn2 rfl i (by omega)
    rw [show n - i = (n - (i + 2)) + 2 by omega] at ok
    exact hf_gr_j ok (by omega) (by omega) (hf_gr_st hn hn2 hw i (by omega))
theorem hf_deep {s : (Nat → Nat) × (Nat → Nat)} {t S : Nat} (h : hf_gr s t) (hS : ∀ k, k < t → s.1 k ≤ S) (hl : ∀ k, k < t → s.2 k < t) : ∀ e k c, k < t → hf_g c ≤ s.1 k → (s.2 k ≠ 0 → hf_g (c + 1) ≤ s.1 (s.2 k)) → hf_g (c + hf_d s.2 e k) ≤ S
  | 0, k, c, hk, h1, _ => Nat.le_trans h1 (hS k hk)
  | e + 1, k, c, hk, h1, h2 => by
    show hf_g (c + (if s.2 k = 0 then 0 else hf_d s.2 e (s.2 k) + 1)) ≤ S
    by_cases h0 : s.2 k = 0
    · rw [if_pos h0]
      exact Nat.le_trans h1 (hS k hk)
    · rw [if_neg h0, show c + (hf_d s.2 e (s.2 k) + 1) = (c + 1) + hf_d s.2 e (s.2 k) by omega]
      refine hf_deep h hS hl e (s.2 k) (c + 1) (hl k hk) (h2 h0) (fun h3 => ?_)
      have x1 := h.2.2.1 k hk h0 h3
      have x2 := h2 h0
      show hf_g (c + 1) + hf_g c ≤ _
      omega
theorem hf_len_le {n S : Nat} {w0 : Nat → Nat} (hn : 2 ≤ n) (hn2 : n ≤ 258) (hw : ∀ k, k < n → 1 ≤ w0 k) (hS : hf_f w0 (fun _ => 0) n = S) (hS2 : S < 144) {k : Nat} (hk : k < n) : hf_len n w0 k ≤ 9 := by
  have ok := hf_st_ok (w0 := w0) (n := n) (by omega) (by omega) hS (n - 1) (by omega)
  have gr := hf_gr_st (w0 := w0) (n := n) (by omega) (by omega) hw (n - 1) (by omega)
  have h := hf_deep gr ok.2.2.2.1 ok.2.2.2.2 (2 * n) k 0 (by omega) (gr.1 k (by omega)) (fun h0 => by
    have x1 := gr.2.1 k (by omega) h0
    have x2 := gr.1 k (by omega)
    show 2 ≤ _
    omega)
  rw [Nat.zero_add] at h
  refine Decidable.byContradiction (fun hc => ?_)
  have h2 : hf_g 10 ≤ hf_g (hf_len n w0 k) := hf_g_mono _ (by omega)
  have h3 : hf_g 10 = 144 := by decide
  have h4 : hf_g (hf_len n w0 k) ≤ S := h
  omega
theorem hf_len_ge {n : Nat} {w0 : Nat → Nat} (hn : 2 ≤ n) (hn2 : n ≤ 66) {k : Nat} (hk : k < n) : 1 ≤ hf_len n w0 k := by
  have h := (hf_root (n := n) (w0 := w0) hn hn2 rfl).2 k (by omega)
  have e : hf_d (hf_st n w0 (n - 1)).2 (2 * n - 1 + 1) k = hf_d (hf_st n w0 (n - 1)).2 (2 * n - 1) ((hf_st n w0 (n - 1)).2 k) + 1 := by
    show (if (hf_st n w0 (n - 1)).2 k = 0 then 0 else _) = _
    rw [if_neg h]
  rw [show 2 * n - 1 + 1 = 2 * n by omega] at e
  show 1 ≤ hf_d (hf_st n w0 (n - 1)).2 (2 * n) k
  omega
