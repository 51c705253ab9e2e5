/-! LENGTHS: the first of all trees. -/
/-- of the trees below t that are free and not 'but': one more than the lightest, of equals the eldest; 0: there is none -/
def hf_1 (w into : Nat → Nat) (but : Nat) : Nat → Nat
  | 0 => 0
  | k + 1 => if into k = 0 ∧ k ≠ but ∧ (hf_1 w into but k = 0 ∨ w k < w (hf_1 w into but k - 1)) then k + 1 else hf_1 w into but k
/-- k is the first of those with P below t -/
def hf_min (w : Nat → Nat) (P : Nat → Prop) (t k : Nat) : Prop := k < t ∧ P k ∧ ∀ j, j < t → P j → w k < w j ∨ (w k = w j ∧ k ≤ j)
theorem hf_uniq {w : Nat → Nat} {P : Nat → Prop} {t k k2 : Nat} (h : hf_min w P t k) (h2 : hf_min w P t k2) : k = k2 := by
  rcases h.2.2 k2 h2.1 h2.2.1 with a | a <;> rcases h2.2.2 k h.1 h.2.1 with b | b <;> omega
theorem hf_le (w into : Nat → Nat) (but : Nat) : ∀ t, hf_1 w into but t ≤ t
  | 0 => Nat.le_refl _
  | t + 1 => by
    have := hf_le w into but t
    unfold hf_1
    split <;> omega
theorem hf_spec (w into : Nat → Nat) (but : Nat) : ∀ t, (hf_1 w into but t = 0 ∧ ∀ j, j < t → ¬ (into j = 0 ∧ j ≠ but)) ∨ (hf_1 w into but t ≠ 0 ∧ hf_min w (fun j => into j = 0 ∧ j ≠ but) t (hf_1 w into but t - 1))
  | 0 => Or.inl ⟨rfl, fun j h => absurd h (Nat.not_lt_zero _)⟩
  | t + 1 => by
    have hl := hf_le w into but t
    unfold hf_1
    rcases hf_spec w into but t with ⟨h1, h2⟩ | ⟨h1, h2⟩
    · by_cases hf : into t = 0 ∧ t ≠ but
      · rw [if_pos ⟨hf.1, hf.2, Or.inl h1⟩]
        refine Or.inr ⟨by omega, by omega, by simpa using hf, fun j hj hp => ?_⟩
        by_cases e : j = t
        · exact Or.inr ⟨by rw [e]; rfl, by omega⟩
        · exact absurd hp (h2 j (by omega))
      · rw [if_neg (fun z => hf ⟨z.1, z.2.1⟩)]
        refine Or.inl ⟨h1, fun j hj hp => ?_⟩
        by_cases e : j = t
        · exact hf (e ▸ hp)
        · exact h2 j (by omega) hp
    · by_cases hf : into t = 0 ∧ t ≠ but ∧ (hf_1 w into but t = 0 ∨ w t < w (hf_1 w into but t - 1))
      · rw [if_pos hf]
        refine Or.inr ⟨by omega, by omega, by simpa using ⟨hf.1, hf.2.1⟩, fun j hj hp => ?_⟩
        have hw := hf.2.2.resolve_left h1
        by_cases e : j = t
        · exact Or.inr ⟨by rw [e]; rfl, by omega⟩
        · refine Or.inl ?_
          rcases h2.2.2 j (by omega) hp with z | z
          · exact Nat.lt_trans hw z
          · rw [← z.1]
            exact hw
      · rw [if_neg hf]
        refine Or.inr ⟨h1, by have := h2.1; omega, h2.2.1, fun j hj hp => ?_⟩
        by_cases e : j = t
        · subst e
          have hw : ¬ w j < w (hf_1 w into but j - 1) := fun z => hf ⟨hp.1, hp.2, Or.inr z⟩
          by_cases e2 : w (hf_1 w into but j - 1) = w j
          · exact Or.inr ⟨e2, by omega⟩
          · exact Or.inl (by omega)
        · exact h2.2.2 j (by omega) hp
section FT
variable {K : zx_Kt} {RJ : zx_RJ} {I : zi_I} {m but : Nat} {w into : Nat → Nat} {xb : Int32}
/-- the reference's weights and where its trees went -/
def a_Tr (I : zi_I) (m t : Nat) (w into : Nat → Nat) : Prop := (∀ k, k < t → I (m + 15) k = nI (w k) ∧ w k < 2 ^ 20) ∧ ∀ k, k < t → I (m + 16) k = (if into k = 0 then -1 else nI (into k)) ∧ into k < 2 ^ 20
def hf_v (b : Nat) : Int32 := if b = 0 then -1 else nI (b - 1)
theorem t_firstTree (l : Launch) (d : Nat) {t : Nat} {Q : zi_Q} (g : g_Mod K RJ m) (a : a_Tr I m t w into) (ht : t ≤ 520) (hb : ∀ k, k < 520 → (nI k = xb ↔ k = but)) (q : Q (some (.int (hf_v (hf_1 w into but t)))) I) :
    ∀ j k, k + j = t → zi_X l (zx_rm d 0 0) M_Mod_firstTree K RJ Q 5 [(0, .ref m), (1, .int (nI t)), (2, .int xb), (3, .int (hf_v (hf_1 w into but k))), (4, .int (nI k))] [] I := by
  intro j
  induction j with
  | zero =>
    intro k hk
    obtain rfl : k = t := by omega
    exact r_Mod_firstTree_5 l d m _ _ _ _ g.1 g.intoR (by omega) g.intoK g.weightsR (by omega) g.weightsK ⟨fun _ => q, fun c => absurd (nI_le (Nat.le_refl _) (by omega)) c⟩
  | succ j ih =>
    intro k hk
    have ih := ih (k + 1) (by omega)
    have hl := hf_le w into but k
    have hw := a.1 k (by omega)
    have hi := a.2 k (by omega)
    have keep : ¬ (into k = 0 ∧ k ≠ but ∧ (hf_1 w into but k = 0 ∨ w k < w (hf_1 w into but k - 1))) → zi_X l (zx_rm d 0 0) M_Mod_firstTree K RJ Q 5 [(0, .ref m), (1, .int (nI t)), (2, .int xb), (3, .int (hf_v (hf_1 w into but k))), (4, .int (nI k + 1))] [] I := fun h => by
      rw [nI_1]
      have e : hf_1 w into but (k + 1) = hf_1 w into but k := by
        show (if _ then _ else _) = _
        rw [if_neg h]
      rw [e] at ih
      exact ih
    have take : (into k = 0 ∧ k ≠ but ∧ (hf_1 w into but k = 0 ∨ w k < w (hf_1 w into but k - 1))) → zi_X l (zx_rm d 0 0) M_Mod_firstTree K RJ Q 5 [(0, .ref m), (1, .int (nI t)), (2, .int xb), (3, .int (nI k)), (4, .int (nI k + 1))] [] I := fun h => by
      rw [nI_1]
      have e : hf_1 w into but (k + 1) = k + 1 := by
        show (if _ then _ else _) = _
        rw [if_pos h]
      rw [e] at ih
      exact ih
    refine r_Mod_firstTree_5 l d m _ _ _ _ g.1 g.intoR (by omega) g.intoK g.weightsR (by omega) g.weightsK ⟨fun c => ?_, fun _ => ⟨k, rfl, by omega, fun c => ?_, fun c => ⟨fun c2 => ?_, fun c2 => ⟨fun c3 => ?_, fun c3 => ?_⟩⟩⟩⟩
    · rw [nI_leI (by omega) (by omega)] at c
      omega
    · refine keep (fun h => ?_)
      rw [hi.1, if_pos h.1] at c
      exact absurd c (by decide)
    · exact keep (fun h => h.2.1 ((hb k (by omega)).mp c2))
    · have h0 : hf_1 w into but k = 0 := Decidable.byContradiction (fun h => by
        rw [hf_v, if_neg h] at c3
        exact absurd c3 (nI_pos (by omega)))
      refine take ⟨?_, fun e => c2 ((hb k (by omega)).mpr e), Or.inl h0⟩
      exact Decidable.byContradiction (fun h => c (by rw [hi.1, if_neg h]; exact nI_pos' (by omega)))
    · have h0 : hf_1 w into but k ≠ 0 := fun h => c3 (by rw [hf_v, if_pos h]; decide)
      have hf0 : into k = 0 := Decidable.byContradiction (fun h => c (by rw [hi.1, if_neg h]; exact nI_pos' (by omega)))
      have hw2 := a.1 (hf_1 w into but k - 1) (by omega)
      refine ⟨k, rfl, by omega, hf_1 w into but k - 1, by rw [hf_v, if_neg h0], by omega, fun c4 => ?_, fun c4 => ?_⟩
      · rw [hw.1, hw2.1, nI_leI (by omega) (by omega)] at c4
        exact keep (fun h => by have := h.2.2.resolve_left h0; omega)
      · rw [hw.1, hw2.1, nI_leI (by omega) (by omega)] at c4
        exact take ⟨hf0, fun e => c2 ((hb k (by omega)).mpr e), Or.inr (by omega)⟩
theorem c_firstTree (l : Launch) (d : Nat) {t : Nat} (g : g_Mod K RJ m) (a : a_Tr I m t w into) (ht : t ≤ 520) (hb : ∀ k, k < 520 → (nI k = xb ↔ k = but)) : zi_C l (zx_rm d 0 0) M_Mod_firstTree [.ref m, .int (nI t), .int xb] K RJ I (fun r I2 => r = some (.int (hf_v (hf_1 w into but t))) ∧ I2 = I) :=
  zi_of (by decide) (fun α => Nat.le_of_ble_eq_true rfl) (r_Mod_firstTree_0 l d m _ _ (t_firstTree (but := but) (w := w) (into := into) (Q := fun r I2 => r = some (.int (hf_v (hf_1 w into but t))) ∧ I2 = I) l d g a ht hb ⟨rfl, rfl⟩ t 0 (by omega)))
end FT
