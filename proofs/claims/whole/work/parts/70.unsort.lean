/-! The last column is sorted back. -/
theorem php : ∀ (n : Nat) (f : Nat → Nat), (∀ i, i < n → f i < n) → (∀ i j, i < n → j < n → f i = f j → i = j) → ∀ p, p < n → ∃ i, i < n ∧ f i = p
  | 0, _, _, _, p, hp => absurd hp (Nat.not_lt_zero _)
  | n + 1, f, h1, h2, p, hp => by
    have hv := h1 n (Nat.lt_succ_self n)
    have ih := php n (fun i => if f i = n then f n else f i)
    by_cases e : f n = n
    · have hne : ∀ i, i < n → f i ≠ n := fun i hi h => by
        have := h2 i n (by omega) (by omega) (by rw [h, e])
        omega
      by_cases hpn : p = n
      · exact ⟨n, by omega, by rw [e, hpn]⟩
      · obtain ⟨i, i1, i2⟩ := ih (fun i hi => by
          have a := h1 i (by omega)
          have b := hne i hi
          show (if f i = n then f n else f i) < n
          rw [if_neg b]
          omega) (fun i j hi hj h => by
          have h : (if f i = n then f n else f i) = (if f j = n then f n else f j) := h
          rw [if_neg (hne i hi), if_neg (hne j hj)] at h
          exact h2 i j (by omega) (by omega) h) p (by omega)
        have i2 : (if f i = n then f n else f i) = p := i2
        rw [if_neg (hne i i1)] at i2
        exact ⟨i, by omega, i2⟩
    · have ih2 := ih (fun i hi => by
          have a := h1 i (by omega)
          show (if f i = n then f n else f i) < n
          split <;> omega) (fun i j hi hj h => by
          have h : (if f i = n then f n else f i) = (if f j = n then f n else f j) := h
          by_cases a : f i = n
          · by_cases b : f j = n
            · exact h2 i j (by omega) (by omega) (by rw [a, b])
            · rw [if_pos a, if_neg b] at h
              have := h2 n j (by omega) (by omega) h
              omega
          · by_cases b : f j = n
            · rw [if_neg a, if_pos b] at h
              have := h2 i n (by omega) (by omega) h
              omega
            · rw [if_neg a, if_neg b] at h
              exact h2 i j (by omega) (by omega) h)
      by_cases hpv : p = f n
      · exact ⟨n, by omega, hpv.symm⟩
      · by_cases hpn : p = n
        · obtain ⟨i, i1, i2⟩ := ih2 (f n) (by omega)
          have i2 : (if f i = n then f n else f i) = f n := i2
          by_cases a : f i = n
          · exact ⟨i, by omega, by rw [a, hpn]⟩
          · rw [if_neg a] at i2
            have := h2 i n (by omega) (by omega) i2
            omega
        · obtain ⟨i, i1, i2⟩ := ih2 p (by omega)
          have i2 : (if f i = n then f n else f i) = p := i2
          by_cases a : f i = n
          · rw [if_pos a] at i2
            exact absurd i2.symm hpv
          · rw [if_neg a] at i2
            exact ⟨i, by omega, i2⟩
section UN
variable {c : Nat → Nat}
theorem un_b_iff {i j : Nat} : un_b c i j = true ↔ (c j < c i ∨ (c j = c i ∧ j < i)) := by
  unfold un_b
  rw [decide_eq_true_iff]
theorem un_P_s (i j : Nat) : un_P c i (j + 1) = un_P c i j + (if un_b c i j = true then 1 else 0) := rfl
theorem un_P_lt {i j : Nat} (h : un_b c j i = true) : ∀ n, un_P c i n + (if i < n then 1 else 0) ≤ un_P c j n
  | 0 => by
    rw [if_neg (Nat.not_lt_zero _)]
    exact Nat.le_refl _
  | n + 1 => by
    have ih := un_P_lt h n
    rw [un_P_s, un_P_s]
    have hij := un_b_iff.mp h
    have h1 : un_b c i n = true → un_b c j n = true := fun a => by
      have := un_b_iff.mp a
      exact un_b_iff.mpr (by omega)
    by_cases e : i = n
    · have h2 : ¬ un_b c i n = true := fun a => by
        have := un_b_iff.mp a
        rw [e] at this
        omega
      have h3 : un_b c j n = true := by rw [← e]; exact h
      rw [if_neg (by omega)] at ih
      rw [if_neg h2, if_pos h3, if_pos (by omega)]
      omega
    · by_cases h4 : un_b c i n = true
      · rw [if_pos h4, if_pos (h1 h4)]
        by_cases h5 : i < n
        · rw [if_pos h5] at ih
          rw [if_pos (by omega)]
          omega
        · rw [if_neg h5] at ih
          rw [if_neg (by omega)]
          omega
      · rw [if_neg h4]
        by_cases h5 : i < n
        · rw [if_pos h5] at ih
          rw [if_pos (show i < n + 1 by omega)]
          omega
        · rw [if_neg h5] at ih
          rw [if_neg (show ¬ i < n + 1 by omega)]
          omega
theorem un_P_le (i : Nat) : ∀ n, un_P c i n + (if i < n then 1 else 0) ≤ n
  | 0 => by
    rw [if_neg (Nat.not_lt_zero _)]
    exact Nat.le_refl _
  | n + 1 => by
    have ih := un_P_le i n
    rw [un_P_s]
    by_cases e : i = n
    · have h2 : ¬ un_b c i n = true := fun a => by
        have := un_b_iff.mp a
        rw [e] at this
        omega
      rw [if_neg (by omega)] at ih
      rw [if_neg h2, if_pos (by omega)]
      omega
    · by_cases h5 : i < n
      · rw [if_pos h5] at ih
        rw [if_pos (show i < n + 1 by omega)]
        split <;> omega
      · rw [if_neg h5] at ih
        rw [if_neg (show ¬ i < n + 1 by omega)]
        split <;> omega
theorem un_P_inj {n i j : Nat} (hi : i < n) (hj : j < n) (e : un_P c i n = un_P c j n) : i = j := by
  by_cases h : i = j
  · exact h
  · have : un_b c j i = true ∨ un_b c i j = true := by
      rw [un_b_iff, un_b_iff]
      omega
    rcases this with h1 | h1
    · have := un_P_lt h1 n
      rw [if_pos hi] at this
      omega
    · have := un_P_lt h1 n
      rw [if_pos hj] at this
      omega
theorem un_P_bd {n i : Nat} (hi : i < n) : un_P c i n < n := by
  have := un_P_le (c := c) i n
  rw [if_pos hi] at this
  omega
/-- the one whose place is p -/
def un_f (c : Nat → Nat) (n p : Nat) : Nat → Nat
  | 0 => 0
  | k + 1 => if un_P c k n = p then k else un_f c n p k
theorem un_f_at {n i : Nat} (hi : i < n) : ∀ k, i < k → k ≤ n → un_f c n (un_P c i n) k = i
  | 0, h, _ => absurd h (Nat.not_lt_zero _)
  | k + 1, h, hk => by
    show (if un_P c k n = un_P c i n then k else un_f c n (un_P c i n) k) = i
    by_cases e : un_P c k n = un_P c i n
    · rw [if_pos e]
      exact un_P_inj (by omega) hi e
    · rw [if_neg e]
      by_cases e2 : i = k
      · rw [e2] at e
        exact absurd rfl e
      · exact un_f_at hi k (by omega) (by omega)
theorem un_f_ok {n p : Nat} (hp : p < n) : un_f c n p n < n ∧ un_P c (un_f c n p n) n = p := by
  obtain ⟨i, i1, i2⟩ := php n (fun i => un_P c i n) (fun i hi => un_P_bd hi) (fun i j hi hj e => un_P_inj hi hj e) p hp
  have i2 : un_P c i n = p := i2
  have := un_f_at (c := c) i1 n i1 (Nat.le_refl _)
  rw [i2] at this
  rw [this]
  exact ⟨i1, i2⟩
/-- the places that are gone through -/
def un_pos (c : Nat → Nat) (n og : Nat) : Nat → Nat
  | 0 => og
  | k + 1 => un_f c n (un_pos c n og k) n
theorem un_pos_lt {n og : Nat} (h : og < n) : ∀ k, un_pos c n og k < n
  | 0 => h
  | k + 1 => (un_f_ok (un_pos_lt h k)).1
def un_sh (c : Nat → Nat) (n og : Nat) : List Nat := (List.range n).map (fun k => c (un_pos c n og (k + 1)))
theorem un_sh_len {n og : Nat} : (un_sh c n og).length = n := by simp [un_sh]
theorem un_sh_at {n og k : Nat} (h : k < n) : (un_sh c n og).getD k 0 = c (un_pos c n og (k + 1)) := by
  unfold un_sh
  simp [List.getD, h]
/-- counting: how many are less, how many are equal before -/
def un_lt (c : Nat → Nat) (v : Nat) : Nat → Nat
  | 0 => 0
  | n + 1 => un_lt c v n + (if c n < v then 1 else 0)
def un_eq (c : Nat → Nat) (v : Nat) : Nat → Nat
  | 0 => 0
  | n + 1 => un_eq c v n + (if c n = v then 1 else 0)
theorem un_eq_s (v n : Nat) : un_eq c v (n + 1) = un_eq c v n + (if c n = v then 1 else 0) := rfl
theorem un_lt_s (v : Nat) : ∀ n, un_lt c (v + 1) n = un_lt c v n + un_eq c v n
  | 0 => rfl
  | n + 1 => by
    have ih := un_lt_s v n
    show un_lt c (v + 1) n + (if c n < v + 1 then 1 else 0) = un_lt c v n + (if c n < v then 1 else 0) + (un_eq c v n + (if c n = v then 1 else 0))
    by_cases h1 : c n < v
    · rw [if_pos h1, if_pos (by omega), if_neg (by omega)]
      omega
    · by_cases h2 : c n = v
      · rw [if_neg h1, if_pos (by omega), if_pos h2]
        omega
      · rw [if_neg h1, if_neg (by omega), if_neg h2]
        omega
theorem un_lt_0 : ∀ n, un_lt c 0 n = 0
  | 0 => rfl
  | n + 1 => by
    show un_lt c 0 n + (if c n < 0 then 1 else 0) = 0
    rw [un_lt_0 n, if_neg (by omega)]
theorem un_eq_le (v : Nat) : ∀ n, un_eq c v n ≤ n
  | 0 => Nat.le_refl _
  | n + 1 => by
    have := un_eq_le v n
    rw [un_eq_s]
    split <;> omega
theorem un_P_eq (i : Nat) : ∀ k, un_P c i k = un_lt c (c i) k + un_eq c (c i) (min k i)
  | 0 => by simp [un_P, un_lt, un_eq]
  | k + 1 => by
    have ih := un_P_eq i k
    rw [un_P_s, ih]
    show _ = un_lt c (c i) k + (if c k < c i then 1 else 0) + un_eq c (c i) (min (k + 1) i)
    by_cases h : k < i
    · rw [show min (k + 1) i = min k i + 1 by omega, un_eq_s, show min k i = k by omega]
      by_cases h1 : c k < c i
      · rw [if_pos (un_b_iff.mpr (Or.inl h1)), if_pos h1, if_neg (by omega)]
        omega
      · by_cases h2 : c k = c i
        · rw [if_pos (un_b_iff.mpr (Or.inr ⟨h2, h⟩)), if_neg h1, if_pos h2]
          omega
        · rw [if_neg (fun z => by have := un_b_iff.mp z; omega), if_neg h1, if_neg h2]
          omega
    · rw [show min (k + 1) i = min k i by omega]
      by_cases h1 : c k < c i
      · rw [if_pos (un_b_iff.mpr (Or.inl h1)), if_pos h1]
        omega
      · rw [if_neg (fun z => by have := un_b_iff.mp z; omega), if_neg h1]
        omega
end UN
