/-! LENGTHS by the reference. -/
/-- how many steps up from k, if into leads to larger ones until it is 0 -/
def hf_d (into : Nat → Nat) : Nat → Nat → Nat
  | 0, _ => 0
  | e + 1, k => if into k = 0 then 0 else hf_d into e (into k) + 1
section ML3
variable {K : zx_Kt} {RJ : zx_RJ} {m n t0 : Nat} {w0 : Nat → Nat}
theorem a_Tr.keep {I I2 : zi_I} {F S : List Nat} {t : Nat} {w into : Nat → Nat} (a : a_Tr I m t w into) (h : zg m F S I I2) (h1 : m + 15 ∉ S) (h2 : m + 16 ∉ S) : a_Tr I2 m t w into :=
  ⟨fun k hk => by rw [zg_cell h (by omega) h1]; exact a.1 k hk, fun k hk => by rw [zg_cell h (by omega) h2]; exact a.2 k hk⟩
theorem t_ml12 (l : Launch) (d : Nat) {x1 x3 : Int32} {Q : zi_Q} (g : g_Mod K RJ m) (hn : n ≤ 258)
    (I : zi_I) (q : ∀ x4, zi_X l (zx_rm (d + 1) 0 0) M_Mod_makeLengths K RJ Q 34 [(0, .ref m), (1, .int x1), (2, .int (nI n)), (3, .int x3), (4, .int x4)] [] (fun c i => if c = m + 16 ∧ i < 2 * n then -1 else I c i)) :
    ∀ j k, k + j = 2 * n → zi_X l (zx_rm (d + 1) 0 0) M_Mod_makeLengths K RJ Q 12 [(0, .ref m), (1, .int x1), (2, .int (nI n)), (3, .int x3), (4, .int (nI k))] [] (fun c i => if c = m + 16 ∧ i < k then -1 else I c i) := by
  intro j
  induction j with
  | zero =>
    intro k hk
    obtain rfl : k = 2 * n := by omega
    refine r_Mod_makeLengths_12 l d m _ _ _ _ g.1 g.intoR (by omega) g.intoK ⟨fun _ => q _, fun c => ?_⟩
    rw [show (2 : Int32) = nI 2 from rfl, pk_mul, nI_leI (by omega) (by omega)] at c
    omega
  | succ j ih =>
    intro k hk
    refine r_Mod_makeLengths_12 l d m _ _ _ _ g.1 g.intoR (by omega) g.intoK ⟨fun c => ?_, fun _ => ⟨k, rfl, by omega, ?_⟩⟩
    · rw [show (2 : Int32) = nI 2 from rfl, pk_mul, nI_leI (by omega) (by omega)] at c
      omega
    · rw [nI_1]
      refine zx_eq rfl rfl rfl ?_ (ih (k + 1) (by omega))
      congr 2
      funext c i
      unfold zx_u2
      by_cases h1 : c = m + 16
      · by_cases h2 : i = k
        · simp [h1, h2]
        · have : (i < k + 1) ↔ (i < k) := by omega
          simp [h1, h2, this]
      · simp [h1]
theorem hf_neg1 : ∀ k, k < 520 → (nI k = (-1 : Int32) ↔ k = 1000000) := by decide +kernel
theorem t_ml34 (l : Launch) (d : Nat) {S : Nat} {x1 : Int32} {Q : zi_Q} (g : g_Mod K RJ m) (hn0 : 2 ≤ n) (hn : n ≤ 258) (hS : hf_f w0 (fun _ => 0) n = S) (hS2 : S < 2 ^ 20) :
    ∀ (j i : Nat) (I : zi_I) (x4 : Int32), i + j = n - 1 → a_Tr I m (n + i) (hf_st n w0 i).1 (hf_st n w0 i).2 → (∀ k, n + i ≤ k → k < 2 * n → I (m + 16) k = -1) →
      (∀ I2, a_Tr I2 m (2 * n - 1) (hf_st n w0 (n - 1)).1 (hf_st n w0 (n - 1)).2 → zg m [] [m + 15, m + 16] I I2 → zi_X l (zx_rm (d + 1) 0 0) M_Mod_makeLengths K RJ Q 106 [(0, .ref m), (1, .int x1), (2, .int (nI n)), (3, .int (nI (2 * n - 1))), (4, .int 0)] [] I2) →
      zi_X l (zx_rm (d + 1) 0 0) M_Mod_makeLengths K RJ Q 34 [(0, .ref m), (1, .int x1), (2, .int (nI n)), (3, .int (nI (n + i))), (4, .int x4)] [] I := by
  have e2 : (2 : Int32) * nI n - 1 = nI (2 * n - 1) := by rw [show (2 : Int32) = nI 2 from rfl, pk_mul, show (1 : Int32) = nI 1 from rfl, pk_sub (by omega)]
  intro j
  induction j with
  | zero =>
    intro i I x4 hi a hr q
    obtain rfl : i = n - 1 := by omega
    refine r_Mod_makeLengths_34 l d m _ _ _ _ g.1 g.weightsR (by omega) g.weightsK g.intoR (by omega) g.intoK ⟨fun _ => ?_, fun c => ?_⟩
    · rw [show n + (n - 1) = 2 * n - 1 by omega] at a ⊢
      exact q I a zg_refl
    · rw [e2, nI_leI (by omega) (by omega)] at c
      omega
  | succ j ih =>
    intro i I x4 hi a hr q
    have ok := hf_st_ok (by omega) (by omega) hS i (by omega)
    obtain ⟨n1, n2, ha, hb⟩ := hf_two ok (by omega) (by omega)
    have hal := ha.1
    have hbl := hb.1
    refine r_Mod_makeLengths_34 l d m _ _ _ _ g.1 g.weightsR (by omega) g.weightsK g.intoR (by omega) g.intoK ⟨fun c => ?_, fun _ => zi_mono (c_firstTree (but := 1000000) l d g a (by omega) hf_neg1) ?_⟩
    · rw [e2, nI_leI (by omega) (by omega)] at c
      omega
    · rintro r I2 ⟨rfl, rfl⟩
      refine ⟨_, rfl, ?_⟩
      rw [show hf_v (hf_1 (hf_st n w0 i).1 (hf_st n w0 i).2 1000000 (n + i)) = nI (hf_a (hf_st n w0 i) (n + i)) by rw [hf_v, if_neg n1]; rfl]
      refine zi_mono (c_firstTree (but := hf_a (hf_st n w0 i) (n + i)) l d g a (by omega) (fun k hk => nI_eq (by omega) (by omega))) ?_
      rintro r I3 ⟨rfl, rfl⟩
      refine ⟨_, rfl, ?_⟩
      rw [show hf_v (hf_1 (hf_st n w0 i).1 (hf_st n w0 i).2 (hf_a (hf_st n w0 i) (n + i)) (n + i)) = nI (hf_b (hf_st n w0 i) (n + i)) by rw [hf_v, if_neg n2]; rfl]
      have wa := a.1 _ hal
      have wb := a.1 _ hbl
      refine ⟨_, rfl, by omega, _, rfl, by omega, _, rfl, by omega, _, rfl, by omega, _, rfl, by omega, ?_⟩
      rw [wa.1, wb.1, nI_add, nI_1]
      have hsum : (hf_st n w0 i).1 (hf_a (hf_st n w0 i) (n + i)) + (hf_st n w0 i).1 (hf_b (hf_st n w0 i) (n + i)) < 2 ^ 20 := by
        have h2 := (hf_ok_j (c := n - i - 2) (by rw [show n - i - 2 + 2 = n - i by omega]; exact ok) (by omega) (by omega)).2.2.2.1 (n + i) (by omega)
        have h3 : (hf_j (hf_st n w0 i) (n + i)).1 (n + i) = (hf_st n w0 i).1 (hf_a (hf_st n w0 i) (n + i)) + (hf_st n w0 i).1 (hf_b (hf_st n w0 i) (n + i)) := va_up_s
        omega
      refine ih (i + 1) _ _ (by omega) ⟨fun k hk => ?_, fun k hk => ?_⟩ (fun k h1 h2 => ?_) (fun I4 y1 y2 => q I4 y1 (zg_trans (zg_trans (zg_trans (zg_arr (by simp) (by omega)) (zg_arr (by simp) (by omega))) (zg_arr (by simp) (by omega))) y2))
      · show _ = nI (va_up (hf_st n w0 i).1 (n + i) _ k) ∧ va_up (hf_st n w0 i).1 (n + i) _ k < 2 ^ 20
        rw [zx_u2_ne (by omega), zx_u2_ne (by omega)]
        by_cases e : k = n + i
        · rw [e, zx_u2_s, va_up_s]
          exact ⟨rfl, hsum⟩
        · rw [zx_u2_k e, va_up_n e]
          exact a.1 k (by omega)
      · show _ = (if va_up (va_up (hf_st n w0 i).2 _ (n + i)) _ (n + i) k = 0 then -1 else nI (va_up (va_up (hf_st n w0 i).2 _ (n + i)) _ (n + i) k)) ∧ va_up (va_up (hf_st n w0 i).2 _ (n + i)) _ (n + i) k < 2 ^ 20
        by_cases e : k = hf_b (hf_st n w0 i) (n + i)
        · rw [e, zx_u2_s, va_up_s, if_neg (by omega)]
          exact ⟨rfl, by omega⟩
        · rw [zx_u2_k e, va_up_n e]
          by_cases e3 : k = hf_a (hf_st n w0 i) (n + i)
          · rw [e3, zx_u2_s, va_up_s, if_neg (by omega)]
            exact ⟨rfl, by omega⟩
          · rw [zx_u2_k e3, va_up_n e3, zx_u2_ne (by omega)]
            by_cases e4 : k = n + i
            · rw [e4, hr _ (Nat.le_refl _) (by omega), ok.2.2.1 _ (Nat.le_refl _), if_pos rfl]
              exact ⟨rfl, by omega⟩
            · exact a.2 k (by omega)
      · rw [zx_u2_k (by omega), zx_u2_k (by omega), zx_u2_ne (by omega)]
        exact hr k (by omega) h2
end ML3
