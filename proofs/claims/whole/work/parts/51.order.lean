/-! The order of rotations. -/
def so_l (f : Nat → Nat) (n a b : Nat) (t : Bool) : Nat → Nat → Bool
  | _, 0 => t
  | k, j + 1 => if f ((a + k) % n) = f ((b + k) % n) then so_l f n a b t (k + 1) j else decide (f ((a + k) % n) < f ((b + k) % n))
def so (f : Nat → Nat) (n a b : Nat) : Bool := so_l f n a b (decide (a < b)) 0 n
theorem so_l_s (f : Nat → Nat) (n a b : Nat) (t : Bool) (k j : Nat) : so_l f n a b t k (j + 1) = if f ((a + k) % n) = f ((b + k) % n) then so_l f n a b t (k + 1) j else decide (f ((a + k) % n) < f ((b + k) % n)) := rfl
section SO
variable {f : Nat → Nat} {n : Nat}
theorem so_l_asym {a b : Nat} {t t' : Bool} (ht : t = true → t' = false) : ∀ j k, so_l f n a b t k j = true → so_l f n b a t' k j = false
  | 0, _, h => ht h
  | j + 1, k, h => by
    rw [so_l_s] at h ⊢
    by_cases e : f ((a + k) % n) = f ((b + k) % n)
    · rw [if_pos e] at h
      rw [if_pos e.symm]
      exact so_l_asym ht j (k + 1) h
    · rw [if_neg e, decide_eq_true_iff] at h
      rw [if_neg (Ne.symm e), decide_eq_false_iff_not]
      omega
theorem so_l_tot {a b : Nat} {t t' : Bool} (ht : t = false → t' = true) : ∀ j k, so_l f n a b t k j = false → so_l f n b a t' k j = true
  | 0, _, h => ht h
  | j + 1, k, h => by
    rw [so_l_s] at h ⊢
    by_cases e : f ((a + k) % n) = f ((b + k) % n)
    · rw [if_pos e] at h
      rw [if_pos e.symm]
      exact so_l_tot ht j (k + 1) h
    · rw [if_neg e, decide_eq_false_iff_not] at h
      rw [if_neg (Ne.symm e), decide_eq_true_iff]
      omega
theorem so_l_trans {a b c : Nat} {t1 t2 t3 : Bool} (ht : t1 = true → t2 = true → t3 = true) : ∀ j k, so_l f n a b t1 k j = true → so_l f n b c t2 k j = true → so_l f n a c t3 k j = true
  | 0, _, h1, h2 => ht h1 h2
  | j + 1, k, h1, h2 => by
    rw [so_l_s] at h1 h2 ⊢
    by_cases e1 : f ((a + k) % n) = f ((b + k) % n)
    · rw [if_pos e1] at h1
      by_cases e2 : f ((b + k) % n) = f ((c + k) % n)
      · rw [if_pos e2] at h2
        rw [if_pos (e1.trans e2)]
        exact so_l_trans ht j (k + 1) h1 h2
      · rw [if_neg e2, decide_eq_true_iff] at h2
        rw [if_neg (by omega), decide_eq_true_iff]
        omega
    · rw [if_neg e1, decide_eq_true_iff] at h1
      by_cases e2 : f ((b + k) % n) = f ((c + k) % n)
      · rw [if_neg (by omega), decide_eq_true_iff]
        omega
      · rw [if_neg e2, decide_eq_true_iff] at h2
        rw [if_neg (by omega), decide_eq_true_iff]
        omega
theorem so_asym {a b : Nat} (h : so f n a b = true) : so f n b a = false := so_l_asym (fun h => by rw [decide_eq_true_iff] at h; rw [decide_eq_false_iff_not]; omega) n 0 h
theorem so_irrefl (a : Nat) : so f n a a = false := by
  cases h : so f n a a with
  | false => rfl
  | true =>
    have := so_asym h
    rw [h] at this
    exact absurd this (by decide)
theorem so_tot {a b : Nat} (hab : a ≠ b) (h : so f n a b = false) : so f n b a = true := so_l_tot (fun h => by rw [decide_eq_false_iff_not] at h; rw [decide_eq_true_iff]; omega) n 0 h
theorem so_trans {a b c : Nat} (h1 : so f n a b = true) (h2 : so f n b c = true) : so f n a c = true := so_l_trans (fun h1 h2 => by rw [decide_eq_true_iff] at h1 h2 ⊢; omega) n 0 h1 h2
theorem so_cls {a b : Nat} (h : b < a) : so_l f n a b false 0 n = so f n a b := by
  unfold so
  rw [show decide (a < b) = false by rw [decide_eq_false_iff_not]; omega]
end SO
/-- i comes to place k -/
def so_in (L : List Nat) (k i : Nat) : List Nat := L.take k ++ i :: L.drop k
theorem so_in_len {L : List Nat} {k i : Nat} (h : k ≤ L.length) : (so_in L k i).length = L.length + 1 := by
  simp [so_in]
  omega
theorem so_in_get {L : List Nat} {k i : Nat} (h : k ≤ L.length) (p : Nat) : (so_in L k i).getD p 0 = if p < k then L.getD p 0 else if p = k then i else L.getD (p - 1) 0 := by
  unfold so_in
  simp only [List.getD_eq_getElem?_getD]
  by_cases h1 : p < k
  · rw [if_pos h1, List.getElem?_append_left (by simp; omega), List.getElem?_take, if_pos h1]
  · rw [if_neg h1, List.getElem?_append_right (by simp; omega)]
    rw [List.length_take, Nat.min_eq_left h]
    by_cases h2 : p = k
    · rw [if_pos h2, h2, Nat.sub_self]
      rfl
    · rw [if_neg h2, show p - k = (p - k - 1) + 1 by omega, List.getElem?_cons_succ, List.getElem?_drop, show k + (p - k - 1) = p - 1 by omega]
theorem so_in_perm (L : List Nat) (k i : Nat) : (so_in L k i).Perm (i :: L) := by
  unfold so_in
  refine List.perm_middle.trans ?_
  rw [List.take_append_drop]
section SL
variable (f : Nat → Nat) (n : Nat)
/-- how many of a list are before r -/
def so_c (L : List Nat) (r : Nat) : Nat := L.countP (fun j => so f n j r)
def so_L : Nat → List Nat
  | 0 => []
  | i + 1 => so_in (so_L i) (so_c f n (so_L i) i) i
end SL
section SM
variable {f : Nat → Nat} {n : Nat}
theorem so_c_le (L : List Nat) (r : Nat) : so_c f n L r ≤ L.length := List.countP_le_length
theorem so_L_len : ∀ i, (so_L f n i).length = i
  | 0 => rfl
  | i + 1 => by
    show (so_in (so_L f n i) (so_c f n (so_L f n i) i) i).length = i + 1
    rw [so_in_len (so_c_le _ _), so_L_len i]
theorem so_L_perm : ∀ i, (so_L f n i).Perm (List.range i)
  | 0 => List.Perm.refl _
  | i + 1 => by
    refine (so_in_perm _ _ _).trans ?_
    rw [List.range_succ]
    exact ((so_L_perm i).cons i).trans (List.perm_append_singleton i (List.range i)).symm
theorem getD_mem {L : List Nat} {p : Nat} (h : p < L.length) : L.getD p 0 ∈ L := by
  rw [List.getD_eq_getElem?_getD, List.getElem?_eq_getElem h]
  exact List.getElem_mem h
theorem mem_getD {L : List Nat} {r : Nat} (h : r ∈ L) : ∃ p, p < L.length ∧ L.getD p 0 = r := by
  obtain ⟨p, h1, h2⟩ := List.mem_iff_getElem.mp h
  exact ⟨p, h1, by rw [List.getD_eq_getElem?_getD, List.getElem?_eq_getElem h1, h2]; rfl⟩
theorem so_L_lt {i p : Nat} (h : p < i) : (so_L f n i).getD p 0 < i := List.mem_range.mp ((so_L_perm i).mem_iff.mp (getD_mem (by rw [so_L_len]; exact h)))
/-- where a list is cut by r, so many are before r -/
theorem so_cut {L : List Nat} {k r : Nat} (hk : k ≤ L.length) (h1 : ∀ p, p < k → so f n (L.getD p 0) r = true) (h2 : ∀ p, k ≤ p → p < L.length → so f n (L.getD p 0) r = false) : so_c f n L r = k := by
  have e : L = L.take k ++ L.drop k := (List.take_append_drop k L).symm
  unfold so_c
  rw [e, List.countP_append]
  have a1 : (L.take k).countP (fun j => so f n j r) = (L.take k).length := by
    rw [List.countP_eq_length]
    intro x hx
    obtain ⟨p, p1, p2⟩ := mem_getD hx
    rw [List.length_take] at p1
    rw [← p2]
    have := h1 p (by omega)
    rw [List.getD_eq_getElem?_getD] at this ⊢
    rw [List.getElem?_take, if_pos (by omega)]
    exact this
  have a2 : (L.drop k).countP (fun j => so f n j r) = 0 := by
    rw [List.countP_eq_zero]
    intro x hx
    obtain ⟨p, p1, p2⟩ := mem_getD hx
    rw [List.length_drop] at p1
    rw [← p2]
    have := h2 (k + p) (by omega) (by omega)
    rw [List.getD_eq_getElem?_getD] at this ⊢
    rw [List.getElem?_drop, this]
    decide
  rw [a1, a2, List.length_take]
  omega
def so_sorted (f : Nat → Nat) (n : Nat) (L : List Nat) : Prop := ∀ p q, p < q → q < L.length → so f n (L.getD p 0) (L.getD q 0) = true
theorem so_cut_of {L : List Nat} {r : Nat} (hs : so_sorted f n L) (hr : r ∉ L) : (∀ p, p < so_c f n L r → so f n (L.getD p 0) r = true) ∧ ∀ p, so_c f n L r ≤ p → p < L.length → so f n r (L.getD p 0) = true := by
  have key : ∃ k, k ≤ L.length ∧ (∀ p, p < k → so f n (L.getD p 0) r = true) ∧ ∀ p, k ≤ p → p < L.length → so f n (L.getD p 0) r = false := by
    have : ∀ m, m ≤ L.length → (∀ p, p < m → so f n (L.getD p 0) r = true) ∨ ∃ k, k ≤ L.length ∧ (∀ p, p < k → so f n (L.getD p 0) r = true) ∧ ∀ p, k ≤ p → p < L.length → so f n (L.getD p 0) r = false := by
      intro m
      induction m with
      | zero => exact fun _ => Or.inl (fun p hp => absurd hp (by omega))
      | succ m ih =>
        intro hm
        rcases ih (by omega) with h | h
        · cases e : so f n (L.getD m 0) r with
          | true =>
            refine Or.inl (fun p hp => ?_)
            by_cases e2 : p = m
            · rw [e2]
              exact e
            · exact h p (by omega)
          | false =>
            refine Or.inr ⟨m, by omega, h, fun p h1 h2 => ?_⟩
            by_cases e2 : p = m
            · rw [e2]
              exact e
            · cases e3 : so f n (L.getD p 0) r with
              | false => rfl
              | true =>
                have := so_trans (hs m p (by omega) h2) e3
                rw [e] at this
                exact absurd this (by decide)
        · exact Or.inr h
    rcases this L.length (Nat.le_refl _) with h | h
    · exact ⟨L.length, Nat.le_refl _, h, fun p h1 h2 => absurd h2 (by omega)⟩
    · exact h
  obtain ⟨k, k1, k2, k3⟩ := key
  have ek := so_cut k1 k2 k3
  rw [ek]
  exact ⟨k2, fun p h1 h2 => so_tot (fun e => hr (e ▸ getD_mem h2)) (k3 p h1 h2)⟩
theorem so_L_sorted : ∀ i, so_sorted f n (so_L f n i)
  | 0 => fun p q _ h => absurd h (Nat.not_lt_zero _)
  | i + 1 => by
    have ih := so_L_sorted i
    have hr : i ∉ so_L f n i := fun h => by
      have := List.mem_range.mp ((so_L_perm i).mem_iff.mp h)
      omega
    obtain ⟨c1, c2⟩ := so_cut_of ih hr
    have hk := so_c_le (f := f) (n := n) (so_L f n i) i
    intro p q hpq hq
    have el : (so_L f n (i + 1)).length = (so_L f n i).length + 1 := by rw [so_L_len, so_L_len]
    rw [el] at hq
    show so f n ((so_in (so_L f n i) (so_c f n (so_L f n i) i) i).getD p 0) ((so_in (so_L f n i) (so_c f n (so_L f n i) i) i).getD q 0) = true
    rw [so_in_get hk, so_in_get hk]
    by_cases h1 : q < so_c f n (so_L f n i) i
    · rw [if_pos h1, if_pos (by omega)]
      exact ih p q hpq (by omega)
    · rw [if_neg h1]
      by_cases h2 : q = so_c f n (so_L f n i) i
      · rw [if_pos h2, if_pos (by omega)]
        exact c1 p (by omega)
      · rw [if_neg h2]
        by_cases h3 : p < so_c f n (so_L f n i) i
        · rw [if_pos h3]
          exact ih p (q - 1) (by omega) (by omega)
        · rw [if_neg h3]
          by_cases h4 : p = so_c f n (so_L f n i) i
          · rw [if_pos h4]
            exact c2 (q - 1) (by omega) (by omega)
          · rw [if_neg h4]
            exact ih (p - 1) (q - 1) (by omega) (by omega)
/-- the place of a rotation -/
def so_P (f : Nat → Nat) (n r : Nat) : Nat := so_c f n (List.range n) r
theorem so_P_at {p : Nat} (h : p < n) : so_P f n ((so_L f n n).getD p 0) = p := by
  unfold so_P so_c
  rw [← (so_L_perm (f := f) (n := n) n).countP_eq]
  have hs := so_L_sorted (f := f) (n := n) n
  have hl := so_L_len (f := f) (n := n) n
  refine so_cut (L := so_L f n n) (k := p) (by omega) (fun q hq => hs q p hq (by omega)) (fun q h1 h2 => ?_)
  by_cases e : q = p
  · rw [e]
    exact so_irrefl _
  · exact so_asym (hs p q (by omega) h2)
theorem so_P_lt {r : Nat} (h : r < n) : so_P f n r < n ∧ (so_L f n n).getD (so_P f n r) 0 = r := by
  obtain ⟨p, p1, p2⟩ := mem_getD ((so_L_perm (f := f) (n := n) n).mem_iff.mpr (List.mem_range.mpr h))
  rw [so_L_len] at p1
  have := so_P_at (f := f) p1
  rw [p2] at this
  rw [this]
  exact ⟨p1, p2⟩
theorem so_P_inj {r s : Nat} (h1 : r < n) (h2 : s < n) (e : so_P f n r = so_P f n s) : r = s := by
  have a := (so_P_lt (f := f) h1).2
  have b := (so_P_lt (f := f) h2).2
  rw [e, b] at a
  exact a.symm
/-- counted one by one -/
def so_k (f : Nat → Nat) (n r : Nat) : Nat → Nat
  | 0 => 0
  | j + 1 => so_k f n r j + (if j ≠ r ∧ so f n j r = true then 1 else 0)
theorem so_k_eq (r : Nat) : ∀ j, so_k f n r j = so_c f n (List.range j) r
  | 0 => rfl
  | j + 1 => by
    have ih := so_k_eq r j
    unfold so_c at ih ⊢
    rw [List.range_succ, List.countP_append]
    show so_k f n r j + (if j ≠ r ∧ so f n j r = true then 1 else 0) = _
    rw [ih]
    congr 1
    rw [List.countP_singleton]
    by_cases e : j = r
    · rw [e, if_neg (fun z => z.1 rfl), so_irrefl]
      rfl
    · by_cases h : so f n j r = true
      · rw [if_pos ⟨e, h⟩, if_pos h]
      · rw [if_neg (fun z => h z.2), if_neg h]
theorem so_k_le (r : Nat) : ∀ j, so_k f n r j ≤ j
  | 0 => Nat.le_refl _
  | j + 1 => by
    have := so_k_le r j
    show so_k f n r j + (if j ≠ r ∧ so f n j r = true then 1 else 0) ≤ j + 1
    split <;> omega
/-- the last column -/
def so_col (f : Nat → Nat) (n : Nat) : List Nat := (so_L f n n).map (fun r => f ((r + n - 1) % n))
theorem so_col_len : (so_col f n).length = n := by simp [so_col, so_L_len]
theorem so_col_at {p : Nat} (h : p < n) : (so_col f n).getD p 0 = f (((so_L f n n).getD p 0 + n - 1) % n) := by
  have hl := so_L_len (f := f) (n := n) n
  unfold so_col
  simp only [List.getD_eq_getElem?_getD, List.getElem?_map]
  rw [List.getElem?_eq_getElem (by omega)]
  rfl
end SM
