/-! LENGTHS by the class: the symbols by weight, and the trees by age. -/
def hq_lt (w : Nat → Nat) (a b : Nat) : Prop := w a < w b ∨ (w a = w b ∧ a < b)
/-- f lists the symbols below s by weight, equal ones by number -/
def hq_ord (w f : Nat → Nat) (s : Nat) : Prop := (∀ i, i < s → f i < s) ∧ (∀ i j, i < j → j < s → hq_lt w (f i) (f j)) ∧ ∀ k, k < s → ∃ i, i < s ∧ f i = k
def hq_ins (f : Nat → Nat) (p s : Nat) (i : Nat) : Nat := if i < p then f i else if i = p then s else f (i - 1)
theorem hq_ins_lt {f : Nat → Nat} {p s i : Nat} (h : i < p) : hq_ins f p s i = f i := if_pos h
theorem hq_ins_eq {f : Nat → Nat} {p s : Nat} : hq_ins f p s p = s := by
  unfold hq_ins
  rw [if_neg (Nat.lt_irrefl _), if_pos rfl]
theorem hq_ins_gt {f : Nat → Nat} {p s i : Nat} (h : p < i) : hq_ins f p s i = f (i - 1) := by
  unfold hq_ins
  rw [if_neg (by omega), if_neg (by omega)]
theorem hq_ins_ord {w f : Nat → Nat} {p s : Nat} (h : hq_ord w f s) (hp : p ≤ s) (h1 : ∀ i, i < p → w (f i) ≤ w s) (h2 : ∀ i, p ≤ i → i < s → w s < w (f i)) : hq_ord w (hq_ins f p s) (s + 1) := by
  obtain ⟨a1, a2, a3⟩ := h
  refine ⟨fun i hi => ?_, fun i j hij hj => ?_, fun k hk => ?_⟩
  · rcases Nat.lt_trichotomy i p with c | c | c
    · rw [hq_ins_lt c]
      have := a1 i (by omega)
      omega
    · subst c
      rw [hq_ins_eq]
      omega
    · rw [hq_ins_gt c]
      have := a1 (i - 1) (by omega)
      omega
  · rcases Nat.lt_trichotomy i p with c | c | c
    · rw [hq_ins_lt c]
      rcases Nat.lt_trichotomy j p with e | e | e
      · rw [hq_ins_lt e]
        exact a2 i j hij (by omega)
      · subst e
        rw [hq_ins_eq]
        have x1 := h1 i c
        have x2 := a1 i (by omega)
        unfold hq_lt
        omega
      · rw [hq_ins_gt e]
        exact a2 i (j - 1) (by omega) (by omega)
    · subst c
      rw [hq_ins_eq, hq_ins_gt hij]
      exact Or.inl (h2 (j - 1) (by omega) (by omega))
    · rw [hq_ins_gt c, hq_ins_gt (by omega)]
      exact a2 (i - 1) (j - 1) (by omega) (by omega)
  · by_cases e : k = s
    · exact ⟨p, by omega, by rw [hq_ins_eq, e]⟩
    · obtain ⟨i, hi, he⟩ := a3 k (by omega)
      by_cases c : i < p
      · exact ⟨i, by omega, by rw [hq_ins_lt c, he]⟩
      · exact ⟨i + 1, by omega, by rw [hq_ins_gt (by omega)]; exact he⟩
/-- what is left: the symbols from place a on, the trees from b on -/
def hq_P (f : Nat → Nat) (n a b k : Nat) : Prop := (∃ j, a ≤ j ∧ j < n ∧ f j = k) ∨ b ≤ k
theorem hq_sym {w f : Nat → Nat} {n a b t : Nat} (h : hq_ord w f n) (ha : a < n) (hb : n ≤ b) (hb2 : b ≤ t) (hm : ∀ j k, n ≤ j → j ≤ k → k < t → w j ≤ w k) (hc : b < t → w (f a) ≤ w b) : hf_min w (hq_P f n a b) t (f a) ∧ ∀ k, k < t → (hq_P f n (a + 1) b k ↔ hq_P f n a b k ∧ k ≠ f a) := by
  obtain ⟨a1, a2, a3⟩ := h
  have hfa := a1 a ha
  refine ⟨⟨by omega, Or.inl ⟨a, Nat.le_refl _, ha, rfl⟩, fun j hj hp => ?_⟩, fun k hk => ⟨fun hp => ?_, fun hp => ?_⟩⟩
  · rcases hp with ⟨i, i1, i2, i3⟩ | hp
    · by_cases e : i = a
      · rw [← i3, e]
        exact Or.inr ⟨rfl, Nat.le_refl _⟩
      · have := a2 a i (by omega) i2
        rw [i3] at this
        unfold hq_lt at this
        omega
    · have x1 := hc (by omega)
      have x2 := hm b j hb hp hj
      omega
  · rcases hp with ⟨i, i1, i2, i3⟩ | hp
    · refine ⟨Or.inl ⟨i, by omega, i2, i3⟩, fun e => ?_⟩
      have := a2 a i (by omega) i2
      rw [i3, e] at this
      unfold hq_lt at this
      omega
    · exact ⟨Or.inr hp, by omega⟩
  · rcases hp with ⟨⟨i, i1, i2, i3⟩ | hp, hne⟩
    · refine Or.inl ⟨i, ?_, i2, i3⟩
      by_cases e : i = a
      · exact absurd (by rw [← i3, e]) hne
      · omega
    · exact Or.inr hp
theorem hq_tree {w f : Nat → Nat} {n a b t : Nat} (h : hq_ord w f n) (hb : n ≤ b) (hb2 : b < t) (hm : ∀ j k, n ≤ j → j ≤ k → k < t → w j ≤ w k) (hc : a < n → w b < w (f a)) : hf_min w (hq_P f n a b) t b ∧ ∀ k, k < t → (hq_P f n a (b + 1) k ↔ hq_P f n a b k ∧ k ≠ b) := by
  obtain ⟨a1, a2, a3⟩ := h
  refine ⟨⟨hb2, Or.inr (Nat.le_refl _), fun j hj hp => ?_⟩, fun k hk => ⟨fun hp => ?_, fun hp => ?_⟩⟩
  · rcases hp with ⟨i, i1, i2, i3⟩ | hp
    · have x1 := hc (by omega)
      by_cases e : i = a
      · rw [← i3, e]
        exact Or.inl x1
      · have := a2 a i (by omega) i2
        rw [i3] at this
        unfold hq_lt at this
        omega
    · have x2 := hm b j hb hp hj
      omega
  · rcases hp with ⟨i, i1, i2, i3⟩ | hp
    · have := a1 i i2
      exact ⟨Or.inl ⟨i, i1, i2, i3⟩, by omega⟩
    · exact ⟨Or.inr (by omega), by omega⟩
  · rcases hp with ⟨⟨i, i1, i2, i3⟩ | hp, hne⟩
    · exact Or.inl ⟨i, i1, i2, i3⟩
    · exact Or.inr (by omega)
theorem hq_mono {n : Nat} {w0 : Nat → Nat} (hn : 0 < n) (hn2 : 2 * n ≤ 1000000) : ∀ i, i < n → (∀ j k, n ≤ j → j ≤ k → k < n + i → (hf_st n w0 i).1 j ≤ (hf_st n w0 i).1 k) ∧ (0 < i → ∀ c e, c < n + i → e < n + i → (hf_st n w0 i).2 c = 0 → (hf_st n w0 i).2 e = 0 → c ≠ e → (hf_st n w0 i).1 (n + i - 1) ≤ (hf_st n w0 i).1 c + (hf_st n w0 i).1 e)
  | 0, _ => ⟨fun j k h1 h2 h3 => by omega, fun h => by omega⟩
  | i + 1, hi => by
    have ok := hf_st_ok hn hn2 (w0 := w0) rfl i (by omega)
    obtain ⟨-, -, ha, hb⟩ := hf_two ok (by omega) (by omega)
    have hal := ha.1
    have hbl := hb.1
    have ih := hq_mono (w0 := w0) hn hn2 i (by omega)
    have ew : ∀ k, (hf_st n w0 (i + 1)).1 k = va_up (hf_st n w0 i).1 (n + i) ((hf_st n w0 i).1 (hf_a (hf_st n w0 i) (n + i)) + (hf_st n w0 i).1 (hf_b (hf_st n w0 i) (n + i))) k := fun _ => rfl
    have et : (hf_st n w0 (i + 1)).1 (n + i) = (hf_st n w0 i).1 (hf_a (hf_st n w0 i) (n + i)) + (hf_st n w0 i).1 (hf_b (hf_st n w0 i) (n + i)) := by rw [ew, va_up_s]
    have eo : ∀ k, k ≠ n + i → (hf_st n w0 (i + 1)).1 k = (hf_st n w0 i).1 k := fun k hk => by rw [ew, va_up_n hk]
    have ei : ∀ k, (hf_st n w0 (i + 1)).2 k = va_up (va_up (hf_st n w0 i).2 (hf_a (hf_st n w0 i) (n + i)) (n + i)) (hf_b (hf_st n w0 i) (n + i)) (n + i) k := fun _ => rfl
    have free : ∀ c, c < n + i → (hf_st n w0 (i + 1)).2 c = 0 → (hf_st n w0 i).2 c = 0 ∧ c ≠ hf_a (hf_st n w0 i) (n + i) ∧ c ≠ hf_b (hf_st n w0 i) (n + i) := fun c hc h0 => by
      rw [ei] at h0
      by_cases e1 : c = hf_b (hf_st n w0 i) (n + i)
      · rw [e1, va_up_s] at h0
        omega
      · rw [va_up_n e1] at h0
        by_cases e2 : c = hf_a (hf_st n w0 i) (n + i)
        · rw [e2, va_up_s] at h0
          omega
        · rw [va_up_n e2] at h0
          exact ⟨h0, e2, e1⟩
    have wab := ha.2.2 _ hbl hb.2.1.1
    have big : ∀ c, c < n + i → (hf_st n w0 (i + 1)).2 c = 0 → (hf_st n w0 i).1 (hf_b (hf_st n w0 i) (n + i)) ≤ (hf_st n w0 i).1 c := fun c hc h0 => by
      obtain ⟨y1, y2, y3⟩ := free c hc h0
      have := hb.2.2 c hc ⟨y1, y2⟩
      omega
    refine ⟨fun j k h1 h2 h3 => ?_, fun _ c e hc he c0 e0 hne => ?_⟩
    · by_cases e : k = n + i
      · subst e
        rw [et]
        by_cases e2 : j = n + i
        · rw [e2, et]
          omega
        · rw [eo j e2]
          have x1 := ih.1 j (n + i - 1) h1 (by omega) (by omega)
          have x2 := ih.2 (by omega) _ _ hal hbl ha.2.1 hb.2.1.1 (Ne.symm hb.2.1.2)
          omega
      · rw [eo j (by omega), eo k e]
        exact ih.1 j k h1 h2 (by omega)
    · rw [show n + (i + 1) - 1 = n + i by omega, et]
      by_cases x1 : c = n + i
      · rw [x1, et]
        omega
      · by_cases x2 : e = n + i
        · rw [x2, et]
          omega
        · have y1 := big c (by omega) c0
          have y2 := big e (by omega) e0
          rw [eo c x1, eo e x2]
          omega
theorem hf_c_one {into : Nat → Nat} : ∀ t, hf_c into t = 0 → ∀ j, j < t → into j ≠ 0
  | 0, _, j, hj => by omega
  | t + 1, h, j, hj => by
    have h' : hf_c into t + (if into t = 0 then 1 else 0) = 0 := h
    by_cases e : j = t
    · subst e
      intro h0
      rw [if_pos h0] at h'
      omega
    · exact hf_c_one t (by omega) j (by omega)
theorem hf_d_more {into : Nat → Nat} {T : Nat} (hup : ∀ k, k < T → into k = 0 ∨ (k < into k ∧ into k < T)) : ∀ e k, k < T → T ≤ e + k → hf_d into (e + 1) k = hf_d into e k
  | 0, k, hk, he => by omega
  | e + 1, k, hk, he => by
    show (if into k = 0 then 0 else hf_d into (e + 1) (into k) + 1) = (if into k = 0 then 0 else hf_d into e (into k) + 1)
    by_cases h : into k = 0
    · rw [if_pos h, if_pos h]
    · rw [if_neg h, if_neg h]
      have := (hup k hk).resolve_left h
      rw [hf_d_more hup e (into k) this.2 (by omega)]
