/-! The reference sorts back. -/
section MU
variable {K : zx_Kt} {RJ : zx_RJ} {m n : Nat} {c : Nat → Nat}
def a_MCo (I : zi_I) (m n : Nat) (c : Nat → Nat) : Prop := I m 14 = nI n ∧ ∀ i, i < n → I (m + 6) i = nI (c i)
theorem a_MCo.keep {I I2 : zi_I} {S : List Nat} (a : a_MCo I m n c) (h : zf S I I2) (h1 : m ∉ S) (h2 : m + 6 ∉ S) : a_MCo I2 m n c := ⟨by rw [zf_at h h1]; exact a.1, fun k hk => by rw [zf_at h h2]; exact a.2 k hk⟩
theorem t_mu14 (l : Launch) (d : Nat) {I : zi_I} {i : Nat} {Q : zi_Q} (g : g_Mod K RJ m) (hn : n ≤ 64) (hi : i < n) (hc : ∀ i, i < n → c i < 256) (a : a_MCo I m n c)
    (q : zi_X l (zx_rm d 0 0) M_Mod_unsort K RJ Q 2 [(0, .ref m), (1, .int (nI i + 1))] [] (zx_u2 I (m + 14) (un_P c i n) (nI i))) :
    ∀ (j k : Nat), k + j = n → zi_X l (zx_rm d 0 0) M_Mod_unsort K RJ Q 14 [(0, .ref m), (1, .int (nI i)), (2, .int (nI (un_P c i k))), (3, .int (nI k))] [] I := by
  have hP := un_P_bd (c := c) hi
  intro j
  induction j with
  | zero =>
    intro k hk
    obtain rfl : k = n := by omega
    refine r_Mod_unsort_14 l d m _ _ _ g.1 g.placesR (by omega) g.placesK g.columnR (by omega) g.columnK ⟨fun _ => ⟨_, rfl, by omega, q⟩, fun x => ?_⟩
    rw [a.1, nI_leI (by omega) (by omega)] at x
    omega
  | succ j ih =>
    intro k hk
    have ih := ih (k + 1) (by omega)
    rw [un_P_s] at ih
    have b1 := hc k (by omega)
    have b2 := hc i hi
    have e0 : nI (un_P c i k) + 0 = nI (un_P c i k) := Int32.add_zero _
    refine r_Mod_unsort_14 l d m _ _ _ g.1 g.placesR (by omega) g.placesK g.columnR (by omega) g.columnK ⟨fun x => ?_, fun _ => ⟨k, rfl, by omega, i, rfl, by omega, fun x => ?_, fun x => ⟨k, rfl, by omega, i, rfl, by omega, fun y => ?_, fun y => ⟨fun w => ?_, fun w => ?_⟩⟩⟩⟩
    · rw [a.1, nI_leI (by omega) (by omega)] at x
      omega
    · rw [a.2 _ (by omega), a.2 _ hi, nI_ltI (by omega) (by omega)] at x
      rw [if_pos (un_b_iff.mpr (Or.inl x))] at ih
      rw [nI_1, nI_1]
      exact ih
    · rw [a.2 _ (by omega), a.2 _ hi, nI_ltI (by omega) (by omega)] at x
      rw [a.2 _ (by omega), a.2 _ hi, nI_eq (by omega) (by omega)] at y
      rw [if_neg (fun z => by have := un_b_iff.mp z; omega)] at ih
      rw [e0, nI_1]
      exact ih
    · rw [a.2 _ (by omega), a.2 _ hi, nI_ltI (by omega) (by omega)] at x
      rw [nI_leI (by omega) (by omega)] at w
      rw [if_neg (fun z => by have := un_b_iff.mp z; omega)] at ih
      rw [e0, nI_1]
      exact ih
    · rw [a.2 _ (by omega), a.2 _ hi, nI_eq (by omega) (by omega)] at y
      rw [nI_leI (by omega) (by omega)] at w
      rw [if_pos (un_b_iff.mpr (Or.inr ⟨y, by omega⟩))] at ih
      rw [nI_1, nI_1]
      exact ih
theorem t_mu91 (l : Launch) (d : Nat) {Q : zi_Q} {og : Nat} (g : g_Mod K RJ m) (hn : n ≤ 64) (hog : og < n) :
    ∀ (j i : Nat) (I : zi_I), i + j = n → a_MCo I m n c → (∀ k, k < n → I (m + 14) (un_P c k n) = nI k) → (∀ k, k < i → I (m + 5) k = nI ((un_sh c n og).getD k 0)) →
      (∀ I2, (∀ k, k < n → I2 (m + 5) k = nI ((un_sh c n og).getD k 0)) → zf [m + 5] I I2 → Q none I2) →
      zi_X l (zx_rm d 0 0) M_Mod_unsort K RJ Q 91 [(0, .ref m), (1, .int (nI (un_pos c n og i))), (2, .int (nI i))] [] I := by
  intro j
  induction j with
  | zero =>
    intro i I hi a hf hs q
    obtain rfl : i = n := by omega
    refine r_Mod_unsort_91 l d m _ _ g.1 g.placesR (by omega) g.placesK g.shortRowR (by omega) g.columnR (by omega) g.columnK g.shortRowK ⟨fun _ => q I hs zf_refl, fun x => ?_⟩
    rw [a.1, nI_leI (by omega) (by omega)] at x
    omega
  | succ j ih =>
    intro i I hi a hf hs q
    have h1 := un_pos_lt (c := c) hog i
    have h2 := un_pos_lt (c := c) hog (i + 1)
    have h3 := un_f_ok (c := c) h1
    have e1 : I (m + 14) (un_pos c n og i) = nI (un_pos c n og (i + 1)) := by
      have := hf _ h3.1
      rw [h3.2] at this
      exact this
    refine r_Mod_unsort_91 l d m _ _ g.1 g.placesR (by omega) g.placesK g.shortRowR (by omega) g.columnR (by omega) g.columnK g.shortRowK ⟨fun x => ?_, fun _ => ⟨_, rfl, by omega, un_pos c n og (i + 1), e1, by omega, i, rfl, by omega, ?_⟩⟩
    · rw [a.1, nI_leI (by omega) (by omega)] at x
      omega
    · rw [e1, a.2 _ h2, nI_1]
      have z : zf [m + 5] I (zx_u2 I (m + 5) i (nI (c (un_pos c n og (i + 1))))) := zf_u2 (by simp)
      refine ih (i + 1) _ (by omega) (a.keep z (by simp) (by simp)) (fun k hk => by rw [zf_at z (by simp)]; exact hf k hk) (fun k hk => ?_) (fun I3 y1 y2 => q I3 y1 (zf_trans z y2))
      by_cases e : k = i
      · rw [e, zx_u2_s, un_sh_at (by omega)]
      · rw [zx_u2_k e]
        exact hs k (by omega)
theorem t_mu2 (l : Launch) (d : Nat) {Q : zi_Q} {og : Nat} (g : g_Mod K RJ m) (hn : n ≤ 64) (hog : og < n) (hc : ∀ i, i < n → c i < 256) :
    ∀ (j i : Nat) (I : zi_I), i + j = n → a_MCo I m n c → I m 21 = nI og → (∀ k, k < i → I (m + 14) (un_P c k n) = nI k) →
      (∀ I2, (∀ k, k < n → I2 (m + 5) k = nI ((un_sh c n og).getD k 0)) → zf [m + 5, m + 14] I I2 → Q none I2) →
      zi_X l (zx_rm d 0 0) M_Mod_unsort K RJ Q 2 [(0, .ref m), (1, .int (nI i))] [] I := by
  intro j
  induction j with
  | zero =>
    intro i I hi a h21 hf q
    obtain rfl : i = n := by omega
    refine r_Mod_unsort_2 l d m _ g.1 ⟨fun _ => ?_, fun x => ?_⟩
    · rw [h21]
      exact t_mu91 (c := c) (og := og) l d g hn hog i 0 I (by omega) a hf (fun _ h => absurd h (by omega)) (fun I2 y1 y2 => q I2 y1 (zf_mono y2 (by simp)))
    · rw [a.1, nI_leI (by omega) (by omega)] at x
      omega
  | succ j ih =>
    intro i I hi a h21 hf q
    refine r_Mod_unsort_2 l d m _ g.1 ⟨fun x => ?_, fun _ => ?_⟩
    · rw [a.1, nI_leI (by omega) (by omega)] at x
      omega
    · refine t_mu14 (n := n) (c := c) (i := i) l d g hn (by omega) hc a ?_ n 0 (by omega)
      rw [nI_1]
      have z : zf [m + 5, m + 14] I (zx_u2 I (m + 14) (un_P c i n) (nI i)) := zf_u2 (by simp)
      refine ih (i + 1) _ (by omega) (a.keep z (by simp) (by simp)) (by rw [zf_at z (by simp)]; exact h21) (fun k hk => ?_) (fun I3 y1 y2 => q I3 y1 (zf_trans z y2))
      by_cases e : k = i
      · rw [e, zx_u2_s]
      · rw [zx_u2_k (fun h => e (un_P_inj (by omega) (by omega) h))]
        exact hf k (by omega)
theorem c_munsort (l : Launch) (d : Nat) {I : zi_I} {og : Nat} (g : g_Mod K RJ m) (hn : n ≤ 64) (hog : og < n) (hc : ∀ i, i < n → c i < 256) (h21 : I m 21 = nI og) (a : a_MCo I m n c) :
    zi_C l (zx_rm d 0 0) M_Mod_unsort [.ref m] K RJ I (fun r I2 => r = none ∧ (∀ k, k < n → I2 (m + 5) k = nI ((un_sh c n og).getD k 0)) ∧ zf [m + 5, m + 14] I I2) :=
  zi_of (by decide) (fun α => Nat.le_of_ble_eq_true rfl) (r_Mod_unsort_0 l d m (t_mu2 (n := n) (c := c) (og := og) l d g hn hog hc n 0 I (by omega) a h21 (fun _ h => absurd h (by omega)) (fun I2 y1 y2 => ⟨rfl, y1, y2⟩)))
end MU
