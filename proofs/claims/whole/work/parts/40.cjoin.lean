/-! The class's Trees are joined and measured. -/
section TJ
variable {K : zx_Kt} {RJ : zx_RJ} {o n : Nat} {w0 f : Nat → Nat}
def a_Joins (I : zi_I) (o n : Nat) (w0 f : Nat → Nat) (i a b : Nat) : Prop := I o 4 = nI n ∧ I o 5 = nI a ∧ I o 6 = nI b ∧ (∀ j, j < n → I (o + 4) j = nI (f j)) ∧ (∀ k, k < n + i → I (o + 1) k = nI ((hf_st n w0 i).1 k)) ∧ (∀ k, k < n + i → (hf_st n w0 i).2 k ≠ 0 → I (o + 2) k = nI ((hf_st n w0 i).2 k)) ∧ a ≤ n ∧ n ≤ b ∧ b ≤ n + i ∧ ∀ k, k < n + i → ((hf_st n w0 i).2 k = 0 ↔ hq_P f n a b k)
theorem t_jt18 (l : Launch) (d : Nat) {S : Nat} {Q : zi_Q} (g : g_Trees K RJ o) (hn0 : 2 ≤ n) (hn : n ≤ 66) (hS : hf_f w0 (fun _ => 0) n = S) (hS2 : S < 2 ^ 20) (hf : hq_ord w0 f n) :
    ∀ (j i : Nat) (I : zi_I) (a b : Nat), i + j = n - 1 → a_Joins I o n w0 f i a b → (∀ I2 a2 b2, a_Joins I2 o n w0 f (n - 1) a2 b2 → zg o [5, 6] [o + 1, o + 2] I I2 → Q none I2) →
      zi_X l (zx_rm (d + 1) 0 0) M_Trees_joinTrees K RJ Q 18 [(0, .ref o), (1, .int (nI (n + i)))] [] I := by
  have e2 : (2 : Int32) * nI n - 1 = nI (2 * n - 1) := by rw [show (2 : Int32) = nI 2 from rfl, pk_mul, show (1 : Int32) = nI 1 from rfl, pk_sub (by omega)]
  have gg := g
  obtain ⟨g0, g1, g2, g3, g4⟩ := g
  intro j
  induction j with
  | zero =>
    intro i I a b hi J q
    obtain rfl : i = n - 1 := by omega
    refine r_Trees_joinTrees_18 l d o _ g0 g1.1 (by omega) g1.2 g2.1 (by omega) g2.2 ⟨fun _ => q I a b J zg_refl, fun c => ?_⟩
    rw [J.1, e2, nI_leI (by omega) (by omega)] at c
    omega
  | succ j ih =>
    intro i I a b hi J q
    obtain ⟨j4, j5, j6, jf, jw, jp, ja, jb, jb2, ji⟩ := J
    have ok := hf_st_ok (w0 := w0) (by omega) (by omega) hS i (by omega)
    obtain ⟨n1, n2, ha, hb⟩ := hf_two ok (by omega) (by omega)
    have hmo := (hq_mono (n := n) (w0 := w0) (by omega) (by omega) i (by omega)).1
    have hal := ha.1
    have hbl := hb.1
    have hwl : ∀ k, k < n + i → (hf_st n w0 i).1 k < 2 ^ 20 := fun k hk => by
      have := ok.2.2.2.1 k hk
      omega
    have hf' : hq_ord (hf_st n w0 i).1 f n := by
      have e : ∀ i, i < n → ∀ k, k < n → (hf_st n w0 i).1 k = w0 k := fun i => by
        induction i with
        | zero => exact fun _ _ _ => rfl
        | succ i ih2 =>
          intro hi2 k hk
          show va_up (hf_st n w0 i).1 (n + i) _ k = w0 k
          rw [va_up_n (by omega)]
          exact ih2 (by omega) k hk
      refine ⟨hf.1, fun x y h1 h2 => ?_, hf.2.2⟩
      unfold hq_lt
      rw [e i (by omega) _ (hf.1 x (by omega)), e i (by omega) _ (hf.1 y h2)]
      exact hf.2.1 x y h1 h2
    refine r_Trees_joinTrees_18 l d o _ g0 g1.1 (by omega) g1.2 g2.1 (by omega) g2.2 ⟨fun c => ?_, fun _ => zi_mono (c_takeFirst (w := (hf_st n w0 i).1) (f := f) (a := a) (b := b) l d gg hn (by omega) j4 j5 j6 hf' jf (fun k hk => ⟨jw k hk, hwl k hk⟩) ja jb jb2 hmo ?_) ?_⟩
    · rw [j4, e2, nI_leI (by omega) (by omega)] at c
      omega
    · rcases (ji _ hal).mp ha.2.1 with ⟨x, x1, x2, x3⟩ | hx
      · left
        omega
      · right
        omega
    · rintro r I2 ⟨v, a2, b2, rfl, rfl, ha2, hb2, hb3, hv, hP⟩
      have ev : v = hf_a (hf_st n w0 i) (n + i) := hf_uniq hv ⟨ha.1, (ji _ hal).mp ha.2.1, fun y hy hp => ha.2.2 y hy ((ji y hy).mpr hp)⟩
      refine ⟨_, rfl, zi_mono (c_takeFirst (w := (hf_st n w0 i).1) (f := f) (a := a2) (b := b2) (n := n) l d gg hn (by omega) (by rw [zx_u2_k (by decide), zx_u2_k (by decide)]; exact j4) (by rw [zx_u2_k (by decide), zx_u2_s]) (by rw [zx_u2_s]) hf' (fun y hy => by rw [zx_u2_ne (by omega), zx_u2_ne (by omega)]; exact jf y hy) (fun k hk => by rw [zx_u2_ne (by omega), zx_u2_ne (by omega)]; exact ⟨jw k hk, hwl k hk⟩) ha2 hb2 hb3 hmo ?_) ?_⟩
      · have hbP : hq_P f n a2 b2 (hf_b (hf_st n w0 i) (n + i)) := (hP _ hbl).mpr ⟨(ji _ hbl).mp hb.2.1.1, by rw [ev]; exact hb.2.1.2⟩
        rcases hbP with ⟨x, x1, x2, x3⟩ | hx
        · left
          omega
        · right
          omega
      · rintro r I2 ⟨v2, a3, b3, rfl, rfl, ha3, hb4, hb5, hv2, hP2⟩
        have ev2 : v2 = hf_b (hf_st n w0 i) (n + i) := hf_uniq hv2 ⟨hb.1, (hP _ hbl).mpr ⟨(ji _ hbl).mp hb.2.1.1, by rw [ev]; exact hb.2.1.2⟩, fun y hy hp => hb.2.2 y hy (by
          have := (hP y hy).mp hp
          exact ⟨(ji y hy).mpr this.1, by rw [← ev]; exact this.2⟩)⟩
        subst ev ev2
        have eI : ∀ c i2, c ≠ o → zx_u2 (zx_u2 (zx_u2 (zx_u2 I o 5 (nI a2)) o 6 (nI b2)) o 5 (nI a3)) o 6 (nI b3) c i2 = I c i2 := fun c i2 hc => by
          rw [zx_u2_ne (fun z => hc z.1), zx_u2_ne (fun z => hc z.1), zx_u2_ne (fun z => hc z.1), zx_u2_ne (fun z => hc z.1)]
        refine ⟨_, rfl, _, rfl, by omega, _, rfl, by omega, _, rfl, by omega, _, rfl, by omega, _, rfl, by omega, ?_⟩
        rw [eI _ _ (by omega), eI _ _ (by omega), jw _ hal, jw _ hbl, nI_add, nI_1]
        have hnew : hf_st n w0 (i + 1) = hf_j (hf_st n w0 i) (n + i) := rfl
        refine ih (i + 1) _ a3 b3 (by omega) ⟨?_, ?_, ?_, fun y hy => ?_, fun k hk => ?_, fun k hk h0 => ?_, ha3, hb4, by omega, fun k hk => ?_⟩ (fun I4 a4 b4 y1 y2 => q I4 a4 b4 y1 (zg_trans (zg_trans (zg_trans (zg_trans (zg_trans (zg_trans (zg_trans (zg_fld (by simp)) (zg_fld (by simp))) (zg_fld (by simp))) (zg_fld (by simp))) (zg_arr (by simp) (by omega))) (zg_arr (by simp) (by omega))) (zg_arr (by simp) (by omega))) y2))
        · rw [zx_u2_ne (by omega), zx_u2_ne (by omega), zx_u2_ne (by omega), zx_u2_k (by decide), zx_u2_k (by decide), zx_u2_k (by decide), zx_u2_k (by decide)]
          exact j4
        · rw [zx_u2_ne (by omega), zx_u2_ne (by omega), zx_u2_ne (by omega), zx_u2_k (by decide), zx_u2_s]
        · rw [zx_u2_ne (by omega), zx_u2_ne (by omega), zx_u2_ne (by omega), zx_u2_s]
        · rw [zx_u2_ne (by omega), zx_u2_ne (by omega), zx_u2_ne (by omega), eI _ _ (by omega)]
          exact jf y hy
        · rw [zx_u2_ne (by omega), zx_u2_ne (by omega), hnew]
          show _ = nI (va_up (hf_st n w0 i).1 (n + i) _ k)
          by_cases e : k = n + i
          · rw [e, zx_u2_s, va_up_s]
          · rw [zx_u2_k e, va_up_n e, eI _ _ (by omega)]
            exact jw k (by omega)
        · rw [hnew] at h0 ⊢
          have h0' : va_up (va_up (hf_st n w0 i).2 (hf_a (hf_st n w0 i) (n + i)) (n + i)) (hf_b (hf_st n w0 i) (n + i)) (n + i) k ≠ 0 := h0
          show _ = nI (va_up (va_up (hf_st n w0 i).2 (hf_a (hf_st n w0 i) (n + i)) (n + i)) (hf_b (hf_st n w0 i) (n + i)) (n + i) k)
          by_cases e : k = hf_b (hf_st n w0 i) (n + i)
          · rw [e, zx_u2_s, va_up_s]
          · rw [zx_u2_k e, va_up_n e]
            rw [va_up_n e] at h0'
            by_cases e3 : k = hf_a (hf_st n w0 i) (n + i)
            · rw [e3, zx_u2_s, va_up_s]
            · rw [zx_u2_k e3, va_up_n e3, zx_u2_ne (by omega), eI _ _ (by omega)]
              rw [va_up_n e3] at h0'
              have : k ≠ n + i := fun e4 => h0' (by rw [e4]; exact ok.2.2.1 _ (Nat.le_refl _))
              exact jp k (by omega) h0'
        · rw [hnew]
          show va_up (va_up (hf_st n w0 i).2 (hf_a (hf_st n w0 i) (n + i)) (n + i)) (hf_b (hf_st n w0 i) (n + i)) (n + i) k = 0 ↔ _
          by_cases e4 : k = n + i
          · subst e4
            rw [va_up_n (by omega), va_up_n (by omega)]
            exact ⟨fun _ => Or.inr (by omega), fun _ => ok.2.2.1 _ (Nat.le_refl _)⟩
          · have p1 := hP k (by omega)
            have p2 := hP2 k (by omega)
            have p0 := ji k (by omega)
            rw [p2, p1, ← p0]
            by_cases e : k = hf_b (hf_st n w0 i) (n + i)
            · rw [e, va_up_s]
              exact ⟨fun h => by omega, fun h => absurd rfl h.2⟩
            · rw [va_up_n e]
              by_cases e3 : k = hf_a (hf_st n w0 i) (n + i)
              · rw [e3, va_up_s]
                exact ⟨fun h => by omega, fun h => absurd rfl h.1.2⟩
              · rw [va_up_n e3]
                exact ⟨fun h => ⟨⟨h, e3⟩, e⟩, fun h => h.1.1⟩
end TJ
