/-! The form of bytes: runs are shortened. -/
def sh_p (f : Nat → Nat) : Nat → Nat
  | 0 => 0
  | i + 1 => if 0 < i ∧ f i = f (i - 1) ∧ sh_p f i < 255 then sh_p f i + 1 else 1
def bump (L : List Nat) : List Nat := L.set (L.length - 1) (L.getD (L.length - 1) 0 + 1)
def sh_F (f : Nat → Nat) : Nat → List Nat
  | 0 => []
  | i + 1 => if sh_p f (i + 1) < 4 then sh_F f i ++ [f i] else if sh_p f (i + 1) = 4 then sh_F f i ++ [f i, 0] else bump (sh_F f i)
theorem sh_p_s (f : Nat → Nat) (i : Nat) : sh_p f (i + 1) = if 0 < i ∧ f i = f (i - 1) ∧ sh_p f i < 255 then sh_p f i + 1 else 1 := rfl
theorem sh_F_s (f : Nat → Nat) (i : Nat) : sh_F f (i + 1) = if sh_p f (i + 1) < 4 then sh_F f i ++ [f i] else if sh_p f (i + 1) = 4 then sh_F f i ++ [f i, 0] else bump (sh_F f i) := rfl
theorem sh_p_le (f : Nat → Nat) : ∀ i, sh_p f i ≤ 255
  | 0 => by simp [sh_p]
  | i + 1 => by
    rw [sh_p_s]
    split <;> omega
theorem sh_p_ge (f : Nat → Nat) (i : Nat) : 1 ≤ sh_p f (i + 1) := by
  rw [sh_p_s]
  split <;> omega
theorem bump_len (L : List Nat) : (bump L).length = L.length := by simp [bump]
theorem bump_get (L : List Nat) (p : Nat) (h : p < L.length) : (bump L).getD p 0 = if p = L.length - 1 then L.getD p 0 + 1 else L.getD p 0 := by
  unfold bump
  simp only [List.getD_eq_getElem?_getD, List.getElem?_set]
  by_cases e : p = L.length - 1
  · rw [if_pos e, if_pos e.symm, if_pos (by omega), ← e]
    rfl
  · rw [if_neg e, if_neg (Ne.symm e)]
theorem bump_app (L M : List Nat) (h : M ≠ []) : bump (L ++ M) = L ++ bump M := by
  have hl : 0 < M.length := List.length_pos_iff.mpr h
  apply List.ext_getElem?
  intro p
  unfold bump
  simp only [List.getElem?_set, List.length_append, List.getD_eq_getElem?_getD]
  by_cases hp : p < L.length
  · rw [if_neg (by omega), List.getElem?_append_left hp, List.getElem?_append_left hp]
  · rw [List.getElem?_append_right (by omega), List.getElem?_append_right (by omega), List.getElem?_append_right (by omega), List.getElem?_set]
    by_cases e : L.length + M.length - 1 = p
    · rw [if_pos e, if_pos (by omega), if_pos (by omega), if_pos (by omega), show L.length + M.length - 1 - L.length = M.length - 1 by omega]
    · rw [if_neg e, if_neg (by omega)]
def sh_cost (p : Nat) : Nat := if p < 4 then 1 else if p = 4 then 2 else 0
theorem sh_F_len (f : Nat → Nat) (i : Nat) : (sh_F f (i + 1)).length = (sh_F f i).length + sh_cost (sh_p f (i + 1)) := by
  rw [sh_F_s]
  unfold sh_cost
  split
  · simp
  · split
    · simp
    · rw [bump_len]
      rfl
theorem sh_F_mono (f : Nat → Nat) (i : Nat) : ∀ j, (sh_F f i).length ≤ (sh_F f (i + j)).length
  | 0 => Nat.le_refl _
  | j + 1 => by
    have := sh_F_mono f i j
    rw [← Nat.add_assoc, sh_F_len]
    omega
theorem sh_cost_le (p : Nat) : sh_cost p ≤ 2 := by
  unfold sh_cost
  split
  · omega
  · split <;> omega
theorem sh_F_pos (f : Nat → Nat) (i : Nat) : 1 ≤ (sh_F f (i + 1)).length := by
  have h := sh_F_mono f 1 i
  have e : (sh_F f 1).length = 1 := by
    rw [sh_F_len]
    simp [sh_F, sh_p, sh_cost]
  rw [Nat.add_comm 1 i] at h
  omega
theorem sh_last (f : Nat → Nat) : ∀ i, 4 ≤ sh_p f i → 1 ≤ (sh_F f i).length ∧ (sh_F f i).getD ((sh_F f i).length - 1) 0 = sh_p f i - 4
  | 0, h => by simp [sh_p] at h
  | i + 1, h => by
    refine ⟨sh_F_pos f i, ?_⟩
    rw [sh_F_s, if_neg (by omega)]
    by_cases e : sh_p f (i + 1) = 4
    · rw [if_pos e, e]
      simp only [List.getD_eq_getElem?_getD, List.length_append]
      rw [List.getElem?_append_right (by simp)]
      simp
    · rw [if_neg e, bump_len]
      have e2 : sh_p f (i + 1) = sh_p f i + 1 := by
        have := sh_p_s f i
        split at this
        · exact this
        · omega
      obtain ⟨h1, h2⟩ := sh_last f i (by omega)
      rw [bump_get _ _ (by omega), if_pos rfl, h2, e2]
      omega
theorem sh_F_lt {f : Nat → Nat} : ∀ i, (∀ k, k < i → f k < 256) → ∀ v ∈ sh_F f i, v < 256
  | 0, _, v, hv => absurd hv List.not_mem_nil
  | i + 1, hf, v, hv => by
    have ih := sh_F_lt i (fun k hk => hf k (by omega))
    have h0 := hf i (by omega)
    have hp := sh_p_le f (i + 1)
    rw [sh_F_s] at hv
    split at hv
    · rcases List.mem_append.mp hv with h | h
      · exact ih v h
      · rw [List.mem_singleton] at h
        omega
    · split at hv
      · rcases List.mem_append.mp hv with h | h
        · exact ih v h
        · rcases List.mem_cons.mp h with h | h
          · omega
          · rw [List.mem_singleton] at h
            omega
      · rename_i h1 h2
        have e2 : sh_p f (i + 1) = sh_p f i + 1 := by
          have := sh_p_s f i
          split at this
          · exact this
          · omega
        obtain ⟨q1, q2⟩ := sh_last f i (by omega)
        obtain ⟨p, p1, p2⟩ := List.mem_iff_getElem.mp hv
        rw [bump_len] at p1
        have e3 := bump_get (sh_F f i) p p1
        rw [List.getD_eq_getElem?_getD, List.getElem?_eq_getElem (by rw [bump_len]; exact p1), p2] at e3
        simp only [Option.getD_some] at e3
        by_cases e : p = (sh_F f i).length - 1
        · rw [if_pos e, e, q2] at e3
          omega
        · rw [if_neg e] at e3
          rw [e3]
          refine ih _ ?_
          rw [List.getD_eq_getElem?_getD, List.getElem?_eq_getElem p1]
          exact List.getElem_mem p1
/-- the form of a piece -/
def pf (x j : Nat) : List Nat := if j < 4 then List.replicate j x else List.replicate 4 x ++ [j - 4]
theorem sh_run {f : Nat → Nat} {i : Nat} (hb : i = 0 ∨ f i ≠ f (i - 1) ∨ sh_p f i = 255) : ∀ j, 1 ≤ j → j ≤ 255 → (∀ k, k < j → f (i + k) = f i) → sh_p f (i + j) = j ∧ sh_F f (i + j) = sh_F f i ++ pf (f i) j
  | 0, h, _, _ => absurd h (by omega)
  | 1, _, _, _ => by
    have e : sh_p f (i + 1) = 1 := by
      rw [sh_p_s, if_neg]
      rintro ⟨h1, h2, h3⟩
      rcases hb with h | h | h
      · omega
      · exact h h2
      · omega
    refine ⟨e, ?_⟩
    rw [sh_F_s, e]
    simp [pf]
  | j + 2, _, h2, hf => by
    obtain ⟨e1, e2⟩ := sh_run hb (j + 1) (by omega) (by omega) (fun k hk => hf k (by omega))
    have a1 := hf (j + 1) (by omega)
    have a2 := hf j (by omega)
    have e : sh_p f (i + (j + 2)) = j + 2 := by
      rw [show i + (j + 2) = (i + (j + 1)) + 1 by omega, sh_p_s, if_pos ⟨by omega, by rw [a1, show i + (j + 1) - 1 = i + j by omega, a2], by omega⟩, e1]
    refine ⟨e, ?_⟩
    have e' := e
    rw [show i + (j + 2) = (i + (j + 1)) + 1 by omega] at e' ⊢
    rw [sh_F_s, e', e2, a1]
    unfold pf
    by_cases c1 : j + 2 < 4
    · rw [if_pos c1, if_pos (show j + 1 < 4 by omega), if_pos c1, List.append_assoc, ← List.replicate_succ']
    · rw [if_neg c1, if_neg c1]
      by_cases c2 : j + 2 = 4
      · rw [if_pos c2, if_pos (show j + 1 < 4 by omega), List.append_assoc]
        obtain rfl : j = 2 := by omega
        simp [List.replicate]
      · rw [if_neg c2, if_neg (show ¬ j + 1 < 4 by omega), bump_app _ _ (by simp), bump_app _ _ (by simp)]
        have e5 : bump [j + 1 - 4] = [j + 2 - 4] := by
          simp [bump]
          omega
        rw [e5]
/-- how many bytes a block takes of j more -/
def sh_go (f : Nat → Nat) (lim : Nat) : Nat → Nat → Nat
  | 0, i => i
  | j + 1, i => if (sh_F f (i + 1)).length ≤ lim then sh_go f lim j (i + 1) else i
theorem sh_go_s (f : Nat → Nat) (lim j i : Nat) : sh_go f lim (j + 1) i = if (sh_F f (i + 1)).length ≤ lim then sh_go f lim j (i + 1) else i := rfl
theorem sh_go_ge (f : Nat → Nat) (lim : Nat) : ∀ j i, i ≤ sh_go f lim j i ∧ sh_go f lim j i ≤ i + j
  | 0, i => ⟨Nat.le_refl _, Nat.le_refl _⟩
  | j + 1, i => by
    have := sh_go_ge f lim j (i + 1)
    rw [sh_go_s]
    split <;> omega
theorem sh_go_len (f : Nat → Nat) (lim : Nat) : ∀ j i, (sh_F f i).length ≤ lim → (sh_F f (sh_go f lim j i)).length ≤ lim
  | 0, _, h => h
  | j + 1, i, h => by
    rw [sh_go_s]
    split
    · exact sh_go_len f lim j (i + 1) (by assumption)
    · exact h
theorem sh_F_0 (f : Nat → Nat) : sh_F f 0 = [] := rfl
theorem sh_go_pos {f : Nat → Nat} {lim j : Nat} (h : 1 ≤ lim) : 1 ≤ sh_go f lim (j + 1) 0 := by
  have e : (sh_F f (0 + 1)).length = 1 := by
    rw [sh_F_len]
    simp [sh_F, sh_p, sh_cost]
  rw [sh_go_s, if_pos (by omega)]
  exact (sh_go_ge f lim j 1).1
