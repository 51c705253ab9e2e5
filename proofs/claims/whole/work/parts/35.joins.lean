/-! LENGTHS: the two first are joined, again and again. -/
def hf_c (into : Nat → Nat) : Nat → Nat
  | 0 => 0
  | t + 1 => hf_c into t + (if into t = 0 then 1 else 0)
def hf_f (w into : Nat → Nat) : Nat → Nat
  | 0 => 0
  | t + 1 => hf_f w into t + (if into t = 0 then w t else 0)
theorem hf_c_congr {i1 i2 : Nat → Nat} : ∀ t, (∀ k, k < t → i1 k = i2 k) → hf_c i1 t = hf_c i2 t
  | 0, _ => rfl
  | t + 1, h => by
    simp only [hf_c]
    rw [hf_c_congr t (fun k hk => h k (by omega)), h t (by omega)]
theorem hf_f_congr {w1 w2 i1 i2 : Nat → Nat} : ∀ t, (∀ k, k < t → i1 k = i2 k ∧ w1 k = w2 k) → hf_f w1 i1 t = hf_f w2 i2 t
  | 0, _ => rfl
  | t + 1, h => by
    simp only [hf_f]
    rw [hf_f_congr t (fun k hk => h k (by omega)), (h t (by omega)).1, (h t (by omega)).2]
theorem va_up_s {f : Nat → Nat} {a x : Nat} : va_up f a x a = x := by simp [va_up]
theorem va_up_n {f : Nat → Nat} {a x k : Nat} (h : k ≠ a) : va_up f a x k = f k := by simp [va_up, h]
theorem hf_c_up {into : Nat → Nat} {a x : Nat} (hx : x ≠ 0) (h0 : into a = 0) : ∀ t, a < t → hf_c (va_up into a x) t + 1 = hf_c into t
  | 0, h => absurd h (Nat.not_lt_zero _)
  | t + 1, h => by
    simp only [hf_c]
    by_cases e : a = t
    · subst e
      rw [va_up_s, if_neg hx, if_pos h0, hf_c_congr a (fun k hk => va_up_n (show k ≠ a by omega))]
    · have := hf_c_up hx h0 t (by omega)
      rw [va_up_n (show t ≠ a by omega)]
      omega
theorem hf_f_up {w into : Nat → Nat} {a x : Nat} (hx : x ≠ 0) (h0 : into a = 0) : ∀ t, a < t → hf_f w (va_up into a x) t + w a = hf_f w into t
  | 0, h => absurd h (Nat.not_lt_zero _)
  | t + 1, h => by
    simp only [hf_f]
    by_cases e : a = t
    · subst e
      rw [va_up_s, if_neg hx, if_pos h0, hf_f_congr (i1 := va_up into a x) (i2 := into) (w1 := w) (w2 := w) a (fun k hk => ⟨va_up_n (show k ≠ a by omega), rfl⟩)]
      omega
    · have := hf_f_up (w := w) hx h0 t (by omega)
      rw [va_up_n (show t ≠ a by omega)]
      omega
theorem hf_c_none {into : Nat → Nat} : ∀ t, (∀ j, j < t → into j ≠ 0) → hf_c into t = 0
  | 0, _ => rfl
  | t + 1, h => by
    simp only [hf_c]
    rw [hf_c_none t (fun j hj => h j (by omega)), if_neg (h t (by omega))]
theorem hf_f_le {w into : Nat → Nat} {a : Nat} (h0 : into a = 0) : ∀ t, a < t → w a ≤ hf_f w into t
  | 0, h => absurd h (Nat.not_lt_zero _)
  | t + 1, h => by
    simp only [hf_f]
    by_cases e : a = t
    · subst e
      rw [if_pos h0]
      omega
    · have := hf_f_le (w := w) h0 t (by omega)
      omega
/-- two that are to be joined, of the trees below t -/
def hf_a (s : (Nat → Nat) × (Nat → Nat)) (t : Nat) : Nat := hf_1 s.1 s.2 1000000 t - 1
def hf_b (s : (Nat → Nat) × (Nat → Nat)) (t : Nat) : Nat := hf_1 s.1 s.2 (hf_a s t) t - 1
def hf_j (s : (Nat → Nat) × (Nat → Nat)) (t : Nat) : (Nat → Nat) × (Nat → Nat) := (va_up s.1 t (s.1 (hf_a s t) + s.1 (hf_b s t)), va_up (va_up s.2 (hf_a s t) t) (hf_b s t) t)
def hf_st (n : Nat) (w0 : Nat → Nat) : Nat → (Nat → Nat) × (Nat → Nat)
  | 0 => (w0, fun _ => 0)
  | i + 1 => hf_j (hf_st n w0 i) (n + i)
/-- what holds of t trees of which c are free and weigh S -/
def hf_ok (s : (Nat → Nat) × (Nat → Nat)) (t c S : Nat) : Prop := hf_c s.2 t = c ∧ hf_f s.1 s.2 t = S ∧ (∀ k, t ≤ k → s.2 k = 0) ∧ (∀ k, k < t → s.1 k ≤ S) ∧ ∀ k, k < t → s.2 k < t
theorem hf_two {s : (Nat → Nat) × (Nat → Nat)} {t c S : Nat} (h : hf_ok s t c S) (hc : 2 ≤ c) (ht : t ≤ 1000000) : hf_1 s.1 s.2 1000000 t ≠ 0 ∧ hf_1 s.1 s.2 (hf_a s t) t ≠ 0 ∧ hf_min s.1 (fun j => s.2 j = 0) t (hf_a s t) ∧ hf_min s.1 (fun j => s.2 j = 0 ∧ j ≠ hf_a s t) t (hf_b s t) := by
  obtain ⟨h1, h2, h3, h4, h5⟩ := h
  rcases hf_spec s.1 s.2 1000000 t with ⟨a1, a2⟩ | ⟨a1, a2⟩
  · have := hf_c_none (into := s.2) t (fun j hj h0 => a2 j hj ⟨h0, by omega⟩)
    omega
  · have ha : hf_min s.1 (fun j => s.2 j = 0) t (hf_a s t) := ⟨a2.1, a2.2.1.1, fun j hj hp => a2.2.2 j hj ⟨hp, by omega⟩⟩
    rcases hf_spec s.1 s.2 (hf_a s t) t with ⟨b1, b2⟩ | ⟨b1, b2⟩
    · have e1 := hf_c_up (into := s.2) (a := hf_a s t) (x := 1) (by decide) ha.2.1 t ha.1
      have e2 := hf_c_none (into := va_up s.2 (hf_a s t) 1) t (fun j hj h0 => by
        by_cases e : j = hf_a s t
        · rw [e, va_up_s] at h0
          exact absurd h0 (by decide)
        · rw [va_up_n e] at h0
          exact b2 j hj ⟨h0, e⟩)
      omega
    · exact ⟨a1, b1, ha, b2⟩
theorem hf_ok_j {s : (Nat → Nat) × (Nat → Nat)} {t c S : Nat} (h : hf_ok s t (c + 2) S) (ht : t ≤ 1000000) (ht0 : 0 < t) : hf_ok (hf_j s t) (t + 1) (c + 1) S := by
  obtain ⟨-, -, ha, hb⟩ := hf_two h (by omega) ht
  obtain ⟨h1, h2, h3, h4, h5⟩ := h
  have hab : hf_b s t ≠ hf_a s t := hb.2.1.2
  have hb0 : va_up s.2 (hf_a s t) t (hf_b s t) = 0 := by rw [va_up_n hab]; exact hb.2.1.1
  have c1 := hf_c_up (into := s.2) (x := t) (by omega) ha.2.1 t ha.1
  have c2 := hf_c_up (into := va_up s.2 (hf_a s t) t) (a := hf_b s t) (x := t) (by omega) hb0 t hb.1
  have f1 := hf_f_up (w := s.1) (into := s.2) (x := t) (by omega) ha.2.1 t ha.1
  have f2 := hf_f_up (w := s.1) (into := va_up s.2 (hf_a s t) t) (a := hf_b s t) (x := t) (by omega) hb0 t hb.1
  have ea : va_up (va_up s.2 (hf_a s t) t) (hf_b s t) t t = 0 := by
    have := ha.1
    have := hb.1
    rw [va_up_n (by omega), va_up_n (by omega)]
    exact h3 t (Nat.le_refl _)
  refine ⟨?_, ?_, fun k hk => ?_, fun k hk => ?_, fun k hk => ?_⟩
  · show hf_c (va_up (va_up s.2 (hf_a s t) t) (hf_b s t) t) t + (if va_up (va_up s.2 (hf_a s t) t) (hf_b s t) t t = 0 then 1 else 0) = c + 1
    rw [if_pos ea]
    omega
  · show hf_f (va_up s.1 t _) (va_up (va_up s.2 (hf_a s t) t) (hf_b s t) t) t + (if va_up (va_up s.2 (hf_a s t) t) (hf_b s t) t t = 0 then va_up s.1 t _ t else 0) = S
    rw [if_pos ea, va_up_s, hf_f_congr (w1 := va_up s.1 t (s.1 (hf_a s t) + s.1 (hf_b s t))) (w2 := s.1) t (fun k hk => ⟨rfl, va_up_n (show k ≠ t by omega)⟩)]
    omega
  · have := ha.1
    have := hb.1
    show va_up (va_up s.2 (hf_a s t) t) (hf_b s t) t k = 0
    rw [va_up_n (by omega), va_up_n (by omega)]
    exact h3 k (by omega)
  · show va_up s.1 t _ k ≤ S
    by_cases e : k = t
    · rw [e, va_up_s]
      omega
    · rw [va_up_n e]
      exact h4 k (by omega)
  · show va_up (va_up s.2 (hf_a s t) t) (hf_b s t) t k < t + 1
    by_cases e : k = hf_b s t
    · rw [e, va_up_s]
      omega
    · rw [va_up_n e]
      by_cases e2 : k = hf_a s t
      · rw [e2, va_up_s]
        omega
      · rw [va_up_n e2]
        by_cases e3 : k = t
        · rw [e3, h3 t (Nat.le_refl _)]
          omega
        · have := h5 k (by omega)
          omega
theorem hf_c_all : ∀ n, hf_c (fun _ => 0) n = n
  | 0 => rfl
  | n + 1 => by
    show hf_c (fun _ => 0) n + (if (0 : Nat) = 0 then 1 else 0) = n + 1
    rw [hf_c_all n, if_pos rfl]
theorem hf_st_ok {n S : Nat} {w0 : Nat → Nat} (hn : 0 < n) (hn2 : 2 * n ≤ 1000000) (hS : hf_f w0 (fun _ => 0) n = S) : ∀ i, i < n → hf_ok (hf_st n w0 i) (n + i) (n - i) S
  | 0, _ => ⟨hf_c_all n, hS, fun _ _ => rfl, fun k hk => by rw [← hS]; exact hf_f_le (w := w0) rfl n hk, fun k hk => hn⟩
  | i + 1, h => by
    have ih := hf_st_ok hn hn2 hS i (by omega)
    rw [show n - i = (n - (i + 2)) + 2 by omega] at ih
    have := hf_ok_j ih (by omega) (by omega)
    rw [show n - (i + 1) = (n - (i + 2)) + 1 by omega]
    exact this
