/-! A block's cells; lists moved to the front. -/
/-- a list in an array, its length in a field -/
def aL (I : zi_I) (c f q : Nat) (xs : List Nat) : Prop := I c f = nI xs.length ∧ ∀ i, i < xs.length → I q i = nI (xs.getD i 0)
/-- a list in an array -/
def aA (I : zi_I) (q : Nat) (xs : List Nat) : Prop := ∀ i, i < xs.length → I q i = nI (xs.getD i 0)
/-- the first place of p -/
def ix (p : Nat) : List Nat → Nat
  | [] => 0
  | x :: t => if x = p then 0 else ix p t + 1
theorem ix_lt {p : Nat} : ∀ {xs : List Nat}, p ∈ xs → ix p xs < xs.length
  | [], h => absurd h List.not_mem_nil
  | x :: t, h => by
    unfold ix
    by_cases e : x = p
    · rw [if_pos e]
      simp
    · rw [if_neg e]
      have := ix_lt (p := p) (xs := t) ((List.mem_cons.mp h).resolve_left (fun z => e z.symm))
      simp
      exact this
theorem ix_at {p : Nat} : ∀ {xs : List Nat}, p ∈ xs → xs.getD (ix p xs) 0 = p
  | [], h => absurd h List.not_mem_nil
  | x :: t, h => by
    unfold ix
    by_cases e : x = p
    · rw [if_pos e]
      exact e
    · rw [if_neg e]
      exact ix_at (p := p) (xs := t) ((List.mem_cons.mp h).resolve_left (fun z => e z.symm))
theorem ix_no {p : Nat} : ∀ {xs : List Nat} {j : Nat}, j < ix p xs → xs.getD j 0 ≠ p
  | [], j, h => absurd h (Nat.not_lt_zero _)
  | x :: t, j, h => by
    unfold ix at h
    by_cases e : x = p
    · rw [if_pos e] at h
      exact absurd h (Nat.not_lt_zero _)
    · rw [if_neg e] at h
      cases j with
      | zero => exact e
      | succ j => exact ix_no (p := p) (xs := t) (by omega)
theorem ix_app {p : Nat} {ys : List Nat} : ∀ {xs : List Nat}, p ∈ xs → ix p (xs ++ ys) = ix p xs
  | [], h => absurd h List.not_mem_nil
  | x :: t, h => by
    show (if x = p then 0 else ix p (t ++ ys) + 1) = (if x = p then 0 else ix p t + 1)
    by_cases e : x = p
    · rw [if_pos e, if_pos e]
    · rw [if_neg e, if_neg e, ix_app (p := p) (xs := t) ((List.mem_cons.mp h).resolve_left (fun z => e z.symm))]
theorem mv_app {xs ys : List Nat} {k : Nat} (h : k < xs.length) : mv_to (xs ++ ys) k = mv_to xs k ++ ys := by
  unfold mv_to
  rw [List.take_append_of_le_length (by omega), List.drop_append_of_le_length (by omega)]
  simp only [List.getD_eq_getElem?_getD, List.getElem?_append_left h]
  simp
theorem mv_mem2 {xs : List Nat} {k b : Nat} (h : k < xs.length) (hb : b ∈ xs) : b ∈ mv_to xs k := by
  obtain ⟨i, hi⟩ := List.getElem?_of_mem hb
  have hl : i < xs.length := (List.getElem?_eq_some_iff.mp hi).1
  have hg : xs.getD i 0 = b := by rw [List.getD_eq_getElem?_getD, hi]; rfl
  have key : ∀ j, j < (mv_to xs k).length → (mv_to xs k).getD j 0 ∈ mv_to xs k := fun j hj => by
    rw [List.getD_eq_getElem?_getD, List.getElem?_eq_getElem hj]
    exact List.getElem_mem hj
  rw [mv_len h] at key
  by_cases h1 : i = k
  · subst h1
    have := key 0 (by omega)
    rw [mv_get h, if_pos rfl, hg] at this
    exact this
  · by_cases h2 : i < k
    · have := key (i + 1) (by omega)
      rw [mv_get h, if_neg (by omega), if_pos (by omega), Nat.add_sub_cancel, hg] at this
      exact this
    · have := key i hl
      rw [mv_get h, if_neg (by omega), if_neg (by omega), hg] at this
      exact this
/-- place k of array q to the front -/
def mvF (I : zi_I) (q k : Nat) : zi_I := fun c i => if c = q then (if i = 0 then I q k else if i ≤ k then I q (i - 1) else I q i) else I c i
def mvJ (I : zi_I) (q k j : Nat) : zi_I := fun c i => if c = q ∧ j < i ∧ i ≤ k then I q (i - 1) else I c i
theorem mvF_aA {I : zi_I} {q k : Nat} {xs : List Nat} (a : aA I q xs) (h : k < xs.length) : aA (mvF I q k) q (mv_to xs k) := by
  intro i hi
  rw [mv_len h] at hi
  rw [mv_get h]
  unfold mvF
  rw [if_pos rfl]
  by_cases h0 : i = 0
  · rw [if_pos h0, if_pos h0, a k h]
  · rw [if_neg h0, if_neg h0]
    by_cases h1 : i ≤ k
    · rw [if_pos h1, if_pos h1, a _ (by omega)]
    · rw [if_neg h1, if_neg h1, a _ hi]
theorem mvF_end {I : zi_I} {q k : Nat} : zx_u2 (mvJ I q k 0) q 0 (I q k) = mvF I q k := by
  funext c i
  unfold zx_u2 mvJ mvF
  by_cases hc : c = q
  · subst hc
    by_cases h0 : i = 0
    · simp [h0]
    · by_cases h1 : i ≤ k
      · have h2 : 0 < i := by omega
        simp [h0, h1, h2]
      · simp [h0, h1]
  · simp [hc]
theorem mvJ_top {I : zi_I} {q k : Nat} : mvJ I q k k = I := by
  funext c i
  unfold mvJ
  rw [if_neg (by omega)]
theorem mvJ_step {I : zi_I} {q k j : Nat} (h : j < k) : zx_u2 (mvJ I q k (j + 1)) q (j + 1) (mvJ I q k (j + 1) q j) = mvJ I q k j := by
  have e : mvJ I q k (j + 1) q j = I q j := by
    unfold mvJ
    rw [if_neg (by omega)]
  rw [e]
  funext c i
  unfold zx_u2 mvJ
  by_cases hc : c = q
  · subst hc
    by_cases h1 : i = j + 1
    · subst h1
      have h2 : j < j + 1 ∧ j + 1 ≤ k := by omega
      simp [h2]
    · by_cases h2 : j + 1 < i ∧ i ≤ k
      · have h3 : j < i ∧ i ≤ k := by omega
        simp [h1, h2, h3]
      · have h3 : ¬ (j < i ∧ i ≤ k) := by omega
        simp [h1, h2, h3]
  · simp [hc]
section MV
variable {K : zx_Kt} {RJ : zx_RJ} {I : zi_I} {m : Nat}
theorem t_toFront (l : Launch) (d : Nat) {k : Nat} {Q : zi_Q} (g : g_Mod K RJ m) (hk : k < 256) (q : Q (some (.int (I (m + 9) k))) (mvF I (m + 9) k)) :
    ∀ j, j ≤ k → zi_X l (zx_rm d 0 0) M_Mod_toFront K RJ Q 9 [(0, .ref m), (1, .int (nI k)), (2, .int (I (m + 9) k)), (3, .int (nI j))] [] (mvJ I (m + 9) k j) := by
  intro j
  induction j with
  | zero =>
    intro _
    refine r_Mod_toFront_9 l d m _ _ _ g.1 g.listR (by omega) g.listK ⟨fun _ => ⟨by omega, ?_⟩, fun c => absurd (by decide) c⟩
    rw [mvF_end]
    exact q
  | succ j ih =>
    intro hj
    refine r_Mod_toFront_9 l d m _ _ _ g.1 g.listR (by omega) g.listK ⟨fun c => ?_, fun _ => ⟨j, by rw [nI_pred], by omega, j + 1, rfl, by omega, ?_⟩⟩
    · rw [show (0 : Int32) = nI 0 from rfl, nI_leI (by omega) (by omega)] at c
      omega
    · rw [mvJ_step (by omega), pk_m1]
      exact ih (by omega)
theorem c_toFront (l : Launch) (d : Nat) {k : Nat} (g : g_Mod K RJ m) (hk : k < 256) : zi_C l (zx_rm d 0 0) M_Mod_toFront [.ref m, .int (nI k)] K RJ I (fun r I2 => r = some (.int (I (m + 9) k)) ∧ I2 = mvF I (m + 9) k) := by
  refine zi_of (by decide) (fun α => Nat.le_of_ble_eq_true rfl) (r_Mod_toFront_0 l d m _ g.1 g.listR (by omega) g.listK ⟨k, rfl, hk, ?_⟩)
  have h := t_toFront (I := I) (Q := fun r I2 => r = some (.int (I (m + 9) k)) ∧ I2 = mvF I (m + 9) k) l d g hk ⟨rfl, rfl⟩ k (Nat.le_refl _)
  rw [mvJ_top] at h
  exact h
theorem t_orderFront (l : Launch) (d : Nat) {k : Nat} {Q : zi_Q} (g : g_Mod K RJ m) (hk : k < 4) (q : Q (some (.int (I (m + 13) k))) (mvF I (m + 13) k)) :
    ∀ j, j ≤ k → zi_X l (zx_rm d 0 0) M_Mod_orderFront K RJ Q 9 [(0, .ref m), (1, .int (nI k)), (2, .int (I (m + 13) k)), (3, .int (nI j))] [] (mvJ I (m + 13) k j) := by
  intro j
  induction j with
  | zero =>
    intro _
    refine r_Mod_orderFront_9 l d m _ _ _ g.1 g.orderR (by omega) g.orderK ⟨fun _ => ⟨by omega, ?_⟩, fun c => absurd (by decide) c⟩
    rw [mvF_end]
    exact q
  | succ j ih =>
    intro hj
    refine r_Mod_orderFront_9 l d m _ _ _ g.1 g.orderR (by omega) g.orderK ⟨fun c => ?_, fun _ => ⟨j, by rw [nI_pred], by omega, j + 1, rfl, by omega, ?_⟩⟩
    · rw [show (0 : Int32) = nI 0 from rfl, nI_leI (by omega) (by omega)] at c
      omega
    · rw [mvJ_step (by omega), pk_m1]
      exact ih (by omega)
theorem c_orderFront (l : Launch) (d : Nat) {k : Nat} (g : g_Mod K RJ m) (hk : k < 4) : zi_C l (zx_rm d 0 0) M_Mod_orderFront [.ref m, .int (nI k)] K RJ I (fun r I2 => r = some (.int (I (m + 13) k)) ∧ I2 = mvF I (m + 13) k) := by
  refine zi_of (by decide) (fun α => Nat.le_of_ble_eq_true rfl) (r_Mod_orderFront_0 l d m _ g.1 g.orderR (by omega) g.orderK ⟨k, rfl, hk, ?_⟩)
  have h := t_orderFront (I := I) (Q := fun r I2 => r = some (.int (I (m + 13) k)) ∧ I2 = mvF I (m + 13) k) l d g hk ⟨rfl, rfl⟩ k (Nat.le_refl _)
  rw [mvJ_top] at h
  exact h
theorem t_beginOrder (l : Launch) (d : Nat) {Q : zi_Q} (g : g_Mod K RJ m) (q : Q none (fun c i => if c = m + 13 ∧ i < 4 then nI i else I c i)) :
    ∀ j k, k + j = 4 → zi_X l (zx_rm d 0 0) M_Mod_beginOrder K RJ Q 2 [(0, .ref m), (1, .int (nI k))] [] (fun c i => if c = m + 13 ∧ i < k then nI i else I c i) := by
  intro j
  induction j with
  | zero =>
    intro k hk
    obtain rfl : k = 4 := by omega
    exact r_Mod_beginOrder_2 l d m _ g.1 g.orderR (by omega) g.orderK ⟨fun _ => q, fun c => absurd (by decide) c⟩
  | succ j ih =>
    intro k hk
    refine r_Mod_beginOrder_2 l d m _ g.1 g.orderR (by omega) g.orderK ⟨fun c => ?_, fun _ => ⟨k, rfl, by omega, ?_⟩⟩
    · rw [show (4 : Int32) = nI 4 from rfl, nI_leI (by omega) (by omega)] at c
      omega
    · rw [nI_1]
      refine zx_eq rfl rfl rfl ?_ (ih (k + 1) (by omega))
      congr 2
      funext c i
      unfold zx_u2
      by_cases h1 : c = m + 13
      · by_cases h2 : i = k
        · simp [h1, h2]
        · have : (i < k + 1) ↔ (i < k) := by omega
          simp [h1, h2, this]
      · simp [h1]
theorem c_beginOrder (l : Launch) (d : Nat) (g : g_Mod K RJ m) : zi_C l (zx_rm d 0 0) M_Mod_beginOrder [.ref m] K RJ I (fun r I2 => r = none ∧ I2 = fun c i => if c = m + 13 ∧ i < 4 then nI i else I c i) := by
  refine zi_of (by decide) (fun α => Nat.le_of_ble_eq_true rfl) (r_Mod_beginOrder_0 l d m ?_)
  refine zx_eq rfl rfl rfl ?_ (t_beginOrder (I := I) l d g (Q := fun r I2 => r = none ∧ I2 = fun c i => if c = m + 13 ∧ i < 4 then nI i else I c i) ⟨rfl, rfl⟩ 4 0 (by omega))
  simp
end MV
