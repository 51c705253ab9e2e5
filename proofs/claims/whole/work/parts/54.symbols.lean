/-! Symbols: kinds, digits of a run, places in the list that moves. -/
theorem uu_iff (L : List Nat) (b : Nat) : ∀ i, uu L i b = true ↔ ∃ k, k < i ∧ b = L.getD k 0
  | 0 => by simp [uu]
  | i + 1 => by
    have ih := uu_iff L b i
    show (uu L i b || decide (b = L.getD i 0)) = true ↔ _
    rw [Bool.or_eq_true, ih, decide_eq_true_iff]
    constructor
    · rintro (⟨k, h1, h2⟩ | h)
      · exact ⟨k, by omega, h2⟩
      · exact ⟨i, by omega, h⟩
    · rintro ⟨k, h1, h2⟩
      by_cases e : k = i
      · exact Or.inr (e ▸ h2)
      · exact Or.inl ⟨k, by omega, h2⟩
theorem uu_mem (L : List Nat) (b : Nat) : uu L L.length b = true ↔ b ∈ L := by
  rw [uu_iff]
  constructor
  · rintro ⟨k, h1, h2⟩
    rw [h2]
    exact getD_mem h1
  · intro h
    obtain ⟨p, h1, h2⟩ := mem_getD h
    exact ⟨p, h1, h2.symm⟩
/-- the bytes that are there, rising -/
def kf (u : Nat → Bool) (n : Nat) : List Nat := (List.range n).filter u
theorem kf_s (u : Nat → Bool) (n : Nat) : kf u (n + 1) = if u n = true then kf u n ++ [n] else kf u n := by
  unfold kf
  rw [List.range_succ, List.filter_append]
  by_cases h : u n = true
  · rw [if_pos h]
    simp [h]
  · rw [if_neg h]
    simp [h]
theorem kf_le (u : Nat → Bool) : ∀ n, (kf u n).length ≤ n
  | 0 => Nat.le_refl _
  | n + 1 => by
    have := kf_le u n
    rw [kf_s]
    split
    · rw [List.length_append, List.length_singleton]
      omega
    · omega
theorem kf_mem {u : Nat → Bool} {n b : Nat} : b ∈ kf u n ↔ b < n ∧ u b = true := by
  unfold kf
  rw [List.mem_filter, List.mem_range]
theorem kf_congr {u v : Nat → Bool} {n : Nat} (h : ∀ b, b < n → u b = v b) : kf u n = kf v n := by
  induction n with
  | zero => rfl
  | succ n ih =>
    rw [kf_s, kf_s, ih (fun b hb => h b (by omega)), h n (by omega)]
theorem kf_step (u : Nat → Bool) (a : Nat) : ∀ n, (kf (fun b => u b || decide (b = a)) n).length ≤ (kf u n).length + (if a < n then 1 else 0)
  | 0 => Nat.zero_le _
  | n + 1 => by
    have ih := kf_step u a n
    have e1 : (kf (fun b => u b || decide (b = a)) (n + 1)).length = (kf (fun b => u b || decide (b = a)) n).length + (if (u n || decide (n = a)) = true then 1 else 0) := by
      rw [kf_s]
      split <;> simp
    have e2 : (kf u (n + 1)).length = (kf u n).length + (if u n = true then 1 else 0) := by
      rw [kf_s]
      split <;> simp
    rw [e1, e2]
    by_cases h : n = a
    · rw [if_neg (by omega)] at ih
      rw [if_pos (show a < n + 1 by omega)]
      split <;> omega
    · have e3 : (u n || decide (n = a)) = u n := by simp [h]
      rw [e3]
      by_cases h2 : a < n
      · rw [if_pos h2] at ih
        rw [if_pos (show a < n + 1 by omega)]
        omega
      · rw [if_neg h2] at ih
        rw [if_neg (show ¬ a < n + 1 by omega)]
        omega
theorem kf_uu_le (L : List Nat) (n : Nat) : ∀ i, (kf (uu L i) n).length ≤ i
  | 0 => by
    have : kf (uu L 0) n = [] := by
      unfold kf
      rw [List.filter_eq_nil_iff]
      intro a _
      simp [uu]
    rw [this]
    exact Nat.le_refl _
  | i + 1 => by
    have h1 := kf_uu_le L n i
    have h2 := kf_step (uu L i) (L.getD i 0) n
    have e : kf (uu L (i + 1)) n = kf (fun b => uu L i b || decide (b = L.getD i 0)) n := rfl
    rw [e]
    split at h2 <;> omega
/-- the digits of a run -/
def dg (r : Nat) : List Nat := if r = 0 then [] else (if r % 2 = 1 then 0 else 1) :: dg ((r - 1) / 2)
termination_by r
decreasing_by omega
theorem dg_0 : dg 0 = [] := by
  rw [dg, if_pos rfl]
theorem dg_s {r : Nat} (h : r ≠ 0) : dg r = (if r % 2 = 1 then 0 else 1) :: dg ((r - 1) / 2) := by
  rw [dg, if_neg h]
theorem dg_len (r : Nat) : (dg r).length ≤ r := by
  induction r using Nat.strongRecOn with
  | ind r ih =>
    by_cases h : r = 0
    · rw [h, dg_0]
      exact Nat.le_refl _
    · have := ih ((r - 1) / 2) (by omega)
      rw [dg_s h, List.length_cons]
      omega
theorem dg_lt (r : Nat) : ∀ v ∈ dg r, v < 2 := by
  induction r using Nat.strongRecOn with
  | ind r ih =>
    by_cases h : r = 0
    · rw [h, dg_0]
      exact fun v hv => absurd hv List.not_mem_nil
    · rw [dg_s h]
      intro v hv
      rcases List.mem_cons.mp hv with e | e
      · rw [e]
        split <;> omega
      · exact ih ((r - 1) / 2) (by omega) v e
/-- the symbols of the places from i on -/
def sy_go (c : Nat → Nat) : Nat → Nat → List Nat → Nat → List Nat → List Nat
  | 0, _, _, run, out => out ++ dg run
  | j + 1, i, xs, run, out => if ix (c i) xs = 0 then sy_go c j (i + 1) (mv_to xs (ix (c i) xs)) (run + 1) out else sy_go c j (i + 1) (mv_to xs (ix (c i) xs)) 0 (out ++ dg run ++ [ix (c i) xs + 1])
theorem sy_go_s (c : Nat → Nat) (j i : Nat) (xs : List Nat) (run : Nat) (out : List Nat) : sy_go c (j + 1) i xs run out = if ix (c i) xs = 0 then sy_go c j (i + 1) (mv_to xs (ix (c i) xs)) (run + 1) out else sy_go c j (i + 1) (mv_to xs (ix (c i) xs)) 0 (out ++ dg run ++ [ix (c i) xs + 1]) := rfl
def sy_all (c : Nat → Nat) (n : Nat) (ks : List Nat) : List Nat := sy_go c n 0 ks 0 [] ++ [ks.length + 1]
theorem sy_go_len (c : Nat → Nat) : ∀ (j i : Nat) (xs : List Nat) (run : Nat) (out : List Nat), (sy_go c j i xs run out).length ≤ out.length + run + j
  | 0, _, _, run, out => by
    have := dg_len run
    show (out ++ dg run).length ≤ _
    rw [List.length_append]
    omega
  | j + 1, i, xs, run, out => by
    rw [sy_go_s]
    split
    · have := sy_go_len c j (i + 1) (mv_to xs (ix (c i) xs)) (run + 1) out
      omega
    · have h1 := sy_go_len c j (i + 1) (mv_to xs (ix (c i) xs)) 0 (out ++ dg run ++ [ix (c i) xs + 1])
      have h2 := dg_len run
      rw [List.length_append, List.length_append, List.length_singleton] at h1
      omega
theorem sy_go_lt (c : Nat → Nat) (N : Nat) : ∀ (j i : Nat) (xs : List Nat) (run : Nat) (out : List Nat), xs.length = N → (∀ k, i ≤ k → k < i + j → c k ∈ xs) → (∀ v ∈ out, v < N + 2) → ∀ v ∈ sy_go c j i xs run out, v < N + 2
  | 0, _, _, run, out, _, _, ho, v, hv => by
    rcases List.mem_append.mp hv with h | h
    · exact ho v h
    · have := dg_lt run v h
      omega
  | j + 1, i, xs, run, out, hN, hc, ho, v, hv => by
    have h0 := hc i (Nat.le_refl _) (by omega)
    have hi := ix_lt h0
    have hx : ∀ k, i + 1 ≤ k → k < i + 1 + j → c k ∈ mv_to xs (ix (c i) xs) := fun k h1 h2 => mv_mem2 hi (hc k (by omega) (by omega))
    have hl : (mv_to xs (ix (c i) xs)).length = N := by rw [mv_len hi, hN]
    rw [sy_go_s] at hv
    split at hv
    · exact sy_go_lt c N j (i + 1) _ _ _ hl hx ho v hv
    · refine sy_go_lt c N j (i + 1) _ _ _ hl hx (fun w hw => ?_) v hv
      rcases List.mem_append.mp hw with h | h
      · rcases List.mem_append.mp h with h | h
        · exact ho w h
        · have := dg_lt run w h
          omega
      · rw [List.mem_singleton] at h
        omega
theorem sy_all_len {c : Nat → Nat} {n : Nat} {ks : List Nat} : (sy_all c n ks).length ≤ n + 1 := by
  have := sy_go_len c n 0 ks 0 []
  unfold sy_all
  rw [List.length_append, List.length_singleton]
  simp only [List.length_nil] at this
  omega
theorem sy_all_lt {c : Nat → Nat} {n : Nat} {ks : List Nat} (hc : ∀ k, k < n → c k ∈ ks) : ∀ v ∈ sy_all c n ks, v < ks.length + 2 := by
  intro v hv
  rcases List.mem_append.mp hv with h | h
  · exact sy_go_lt c ks.length n 0 ks 0 [] rfl (fun k _ h => hc k (by omega)) (fun v hv => absurd hv List.not_mem_nil) v h
  · rw [List.mem_singleton] at h
    omega
