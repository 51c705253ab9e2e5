/-! The class shortens. -/
section CF
variable {K : zx_Kt} {RJ : zx_RJ} {b ro N fr lim : Nat} {bs : List Nat}
theorem c_addShortened (l : Launch) (d : Nat) {I : zi_I} {v : Nat} {out : List Nat} (gb : g_Block K RJ b) (a : aL I b 2 (b + 1) out) (hl : out.length < 64) :
    zi_C l (zx_rm d 0 0) M_Block_addShortened [.ref b, .int (nI v)] K RJ I (fun r I2 => r = none ∧ aL I2 b 2 (b + 1) (out ++ [v]) ∧ zg b [2] [b + 1] I I2) := by
  refine zi_of (by decide) (fun α => Nat.le_of_ble_eq_true rfl) (r_Block_addShortened_0 l d b _ gb.k gb.sh.1 (by omega) gb.sh.2 ⟨fun c => ?_, fun _ => ⟨out.length, a.1, by omega, rfl, ?_, zg_trans (zg_arr (by simp) (by omega)) (zg_fld (by simp))⟩⟩)
  · rw [a.1, show (64 : Int32) = nI 64 from rfl, nI_leI (by omega) (by omega)] at c
    omega
  · rw [a.1, nI_1]
    exact aL_add a (by omega)
def fb (bs : List Nat) (fr i : Nat) : Nat := bs.getD (fr + i) 0
theorem aL_bump {I : zi_I} {c f q v : Nat} {L : List Nat} (a : aL I c f q L) (hne : c ≠ q) (h : 1 ≤ L.length) (hv : L.getD (L.length - 1) 0 = v) : aL (zx_u2 I q (L.length - 1) (nI (v + 1))) c f q (bump L) := by
  refine ⟨by rw [zx_u2_ne (fun z => hne z.1), bump_len]; exact a.1, fun i hi => ?_⟩
  rw [bump_len] at hi
  rw [bump_get _ _ hi]
  by_cases e : i = L.length - 1
  · rw [if_pos e, e, zx_u2_s, hv]
  · rw [if_neg e, zx_u2_k e]
    exact a.2 i hi
/-- from the test of the cost on -/
theorem t_sh94 (l : Launch) (d : Nat) {Q : zi_Q} {I : zi_I} {i : Nat} {x6 : Int32} (gb : g_Block K RJ b) (g : g_Row K RJ ro N) (hd : ro + 1 < b) (hlim : lim ≤ 64) (hi : fr + i < 2 ^ 20) (ar : a_Row I ro N bs) (a : aL I b 2 (b + 1) (sh_F (fb bs fr) i)) (hl : (sh_F (fb bs fr) i).length ≤ lim)
    (q1 : (sh_F (fb bs fr) (i + 1)).length ≤ lim → ∀ I2, aL I2 b 2 (b + 1) (sh_F (fb bs fr) (i + 1)) → zg b [2] [b + 1] I I2 → zi_X l (zx_rm (d + 1) 0 0) M_BlockMaker_shorten K RJ Q 11 [(0, .ref b), (1, .ref ro), (2, .int (nI fr)), (3, .int (nI lim)), (4, .int (nI (sh_p (fb bs fr) (i + 1)))), (5, .int (nI (fr + i) + 1))] [] I2)
    (q2 : ¬ (sh_F (fb bs fr) (i + 1)).length ≤ lim → Q (some (.int (nI (fr + i)))) I) :
    zi_X l (zx_rm (d + 1) 0 0) M_BlockMaker_shorten K RJ Q 94 [(0, .ref b), (1, .ref ro), (2, .int (nI fr)), (3, .int (nI lim)), (4, .int (nI (sh_p (fb bs fr) (i + 1)))), (5, .int (nI (fr + i))), (6, .int x6)] [.int (nI (sh_cost (sh_p (fb bs fr) (i + 1))))] I := by
  have hlen := sh_F_len (fb bs fr) i
  have hple := sh_p_le (fb bs fr) (i + 1)
  have hple0 := sh_p_le (fb bs fr) i
  have hcl := sh_cost_le (sh_p (fb bs fr) (i + 1))
  have hF := sh_F_s (fb bs fr) i
  have a165 : ∀ I2, (sh_F (fb bs fr) (i + 1)).length ≤ lim → aL I2 b 2 (b + 1) (sh_F (fb bs fr) (i + 1)) → zg b [2] [b + 1] I I2 → zi_X l (zx_rm (d + 1) 0 0) M_BlockMaker_shorten K RJ Q 165 [(0, .ref b), (1, .ref ro), (2, .int (nI fr)), (3, .int (nI lim)), (4, .int (nI (sh_p (fb bs fr) (i + 1)))), (5, .int (nI (fr + i))), (6, .int x6), (7, .int (nI (sh_cost (sh_p (fb bs fr) (i + 1)))))] [] I2 := fun I2 h1 h2 h3 => r_BlockMaker_shorten_165 l d b ro _ _ _ _ _ _ (q1 h1 I2 h2 h3)
  refine r_BlockMaker_shorten_94 l d b ro _ _ _ _ _ _ gb.k g.1 ⟨fun c => ?_, fun c => ?_⟩
  · rw [a.1, nI_add, nI_leI (by omega) (by omega)] at c
    refine ⟨fun c2 => ?_, fun c2 => ?_⟩
    · rw [show (4 : Int32) = nI 4 from rfl, nI_ltI (by omega) (by omega)] at c2
      rw [if_neg (by omega), if_neg (by omega)] at hF
      have e2 : sh_p (fb bs fr) (i + 1) = sh_p (fb bs fr) i + 1 := by
        have := sh_p_s (fb bs fr) i
        split at this
        · exact this
        · omega
      obtain ⟨s1, s2⟩ := sh_last (fb bs fr) i (by omega)
      refine r_BlockMaker_shorten_126 l d b ro _ _ _ _ _ _ gb.k ⟨fun _ => ?_, fun c3 => ?_⟩
      · have e7 : I b 2 - 1 = nI ((sh_F (fb bs fr) i).length - 1) := by rw [a.1, show (1 : Int32) = nI 1 from rfl, pk_sub (by omega)]
        refine r_BlockMaker_shorten_137 l d b ro _ _ _ _ _ _ gb.k gb.sh.1 (by omega) gb.sh.2 ⟨fun c3 => ?_, fun _ => ⟨fun c3 => ?_, fun _ => ⟨_, e7, by omega, _, e7, by omega, ?_⟩⟩⟩
        · rw [show (4 : Int32) = nI 4 from rfl, nI_leI (by omega) (by omega)] at c3
          omega
        · rw [a.1, show (0 : Int32) = nI 0 from rfl, nI_leI (by omega) (by omega)] at c3
          omega
        · rw [a.2 _ (by omega), nI_1]
          refine a165 _ (by omega) ?_ (zg_arr (by simp) (by omega))
          rw [hF]
          exact aL_bump a (by omega) s1 rfl
      · rw [show (4 : Int32) = nI 4 from rfl, nI_eq (by omega) (by omega)] at c3
        omega
    · rw [show (4 : Int32) = nI 4 from rfl, nI_ltI (by omega) (by omega)] at c2
      have hge := sh_p_ge (fb bs fr) i
      have hroom : (sh_F (fb bs fr) i).length < 64 := by
        have : 1 ≤ sh_cost (sh_p (fb bs fr) (i + 1)) := by
          unfold sh_cost
          split
          · omega
          · split <;> omega
        omega
      have fin : ∀ I2, zg b [2] [b + 1] I I2 → aL I2 b 2 (b + 1) (sh_F (fb bs fr) (i + 1)) → zi_X l (zx_rm (d + 1) 0 0) M_BlockMaker_shorten K RJ Q 137 [(0, .ref b), (1, .ref ro), (2, .int (nI fr)), (3, .int (nI lim)), (4, .int (nI (sh_p (fb bs fr) (i + 1)))), (5, .int (nI (fr + i))), (6, .int x6), (7, .int (nI (sh_cost (sh_p (fb bs fr) (i + 1)))))] [] I2 := fun I2 h1 h2 => by
        refine r_BlockMaker_shorten_137 l d b ro _ _ _ _ _ _ gb.k gb.sh.1 (by omega) gb.sh.2 ⟨fun _ => a165 I2 (by omega) h2 h1, fun c3 => ?_⟩
        rw [show (4 : Int32) = nI 4 from rfl, nI_leI (by omega) (by omega)] at c3
        omega
      refine zi_mono (c_Row_get (i := fr + i) l d g ar hi) ?_
      rintro r I2 ⟨rfl, rfl⟩
      refine ⟨_, rfl, zi_mono (c_addShortened (v := fb bs fr i) l d gb a hroom) ?_⟩
      rintro r I3 ⟨rfl, v1, v2⟩
      refine ⟨rfl, r_BlockMaker_shorten_126 l d b ro _ _ _ _ _ _ gb.k ⟨fun c3 => ?_, fun c3 => ?_⟩⟩
      · rw [show (4 : Int32) = nI 4 from rfl, nI_eq (by omega) (by omega)] at c3
        refine fin I3 v2 ?_
        rw [hF, if_pos (by omega)]
        exact v1
      · rw [show (4 : Int32) = nI 4 from rfl, nI_eq (by omega) (by omega)] at c3
        have h2 : sh_cost (sh_p (fb bs fr) (i + 1)) = 2 := by rw [c3]; rfl
        refine zi_mono (c_addShortened (v := 0) l d gb v1 (by rw [List.length_append, List.length_singleton]; omega)) ?_
        rintro r I4 ⟨rfl, w1, w2⟩
        refine ⟨rfl, fin I4 (zg_trans v2 w2) ?_⟩
        rw [hF, if_neg (by omega), if_pos c3]
        rw [List.append_assoc] at w1
        exact w1
  · rw [a.1, nI_add, nI_leI (by omega) (by omega)] at c
    exact q2 (by omega)
theorem t_sh11 (l : Launch) (d : Nat) {Q : zi_Q} (gb : g_Block K RJ b) (g : g_Row K RJ ro N) (hN : N ≤ 400) (hd : ro + 1 < b) (hlim : lim ≤ 64) (hfr : fr ≤ bs.length) :
    ∀ (j i : Nat) (I : zi_I), fr + i + j = bs.length → a_Row I ro N bs → aL I b 2 (b + 1) (sh_F (fb bs fr) i) → (sh_F (fb bs fr) i).length ≤ lim →
      (∀ I2, aL I2 b 2 (b + 1) (sh_F (fb bs fr) (sh_go (fb bs fr) lim j i)) → zg b [2] [b + 1] I I2 → Q (some (.int (nI (fr + sh_go (fb bs fr) lim j i)))) I2) →
      zi_X l (zx_rm (d + 1) 0 0) M_BlockMaker_shorten K RJ Q 11 [(0, .ref b), (1, .ref ro), (2, .int (nI fr)), (3, .int (nI lim)), (4, .int (nI (sh_p (fb bs fr) i))), (5, .int (nI (fr + i)))] [] I := by
  intro j
  induction j with
  | zero =>
    intro i I hi ar a hl q
    have hN2 := ar.1
    refine r_BlockMaker_shorten_11 l d b ro _ _ _ _ g.1 ⟨fun _ => ?_, fun c => ?_⟩
    · rw [ar.2.1, show bs.length = fr + i by omega]
      exact q I a zg_refl
    · rw [ar.2.1, nI_leI (by omega) (by omega)] at c
      omega
  | succ j ih =>
    intro i I hi ar a hl q
    have hN2 := ar.1
    have hple := sh_p_le (fb bs fr) i
    have hple1 := sh_p_le (fb bs fr) (i + 1)
    have hF := sh_go_s (fb bs fr) lim j i
    have f94 : ∀ x6, zi_X l (zx_rm (d + 1) 0 0) M_BlockMaker_shorten K RJ Q 94 [(0, .ref b), (1, .ref ro), (2, .int (nI fr)), (3, .int (nI lim)), (4, .int (nI (sh_p (fb bs fr) (i + 1)))), (5, .int (nI (fr + i))), (6, .int x6)] [.int (nI (sh_cost (sh_p (fb bs fr) (i + 1))))] I := by
      intro x6
      refine t_sh94 (bs := bs) (N := N) l d gb g hd hlim (by omega) ar a hl (fun h I2 h1 h2 => ?_) (fun h => ?_)
      · rw [if_pos h] at hF
        rw [nI_1]
        exact ih (i + 1) I2 (by omega) (ar.keep h2.2 (by simp; omega) (by simp; omega)) h1 h (fun I3 y1 y2 => by
          rw [hF] at q
          exact q I3 y1 (zg_trans h2 y2))
      · rw [if_neg h] at hF
        rw [hF] at q
        exact q I a zg_refl
    have f71 : ∀ x6, zi_X l (zx_rm (d + 1) 0 0) M_BlockMaker_shorten K RJ Q 71 [(0, .ref b), (1, .ref ro), (2, .int (nI fr)), (3, .int (nI lim)), (4, .int (nI (sh_p (fb bs fr) i))), (5, .int (nI (fr + i))), (6, .int x6)] [.int (nI (sh_p (fb bs fr) (i + 1)))] I := by
      intro x6
      have h94 := f94 x6
      refine r_BlockMaker_shorten_71 l d b ro _ _ _ _ _ _ ⟨fun c => ⟨fun c2 => ?_, fun c2 => ?_⟩, fun c => ?_⟩
      · rw [show (4 : Int32) = nI 4 from rfl, nI_leI (by omega) (by omega)] at c
        rw [show (4 : Int32) = nI 4 from rfl, nI_eq (by omega) (by omega)] at c2
        rw [show sh_cost (sh_p (fb bs fr) (i + 1)) = 0 by unfold sh_cost; rw [if_neg (by omega), if_neg c2]] at h94
        exact h94
      · rw [show (4 : Int32) = nI 4 from rfl, nI_eq (by omega) (by omega)] at c2
        rw [show sh_cost (sh_p (fb bs fr) (i + 1)) = 2 by rw [c2]; rfl] at h94
        exact h94
      · rw [show (4 : Int32) = nI 4 from rfl, nI_leI (by omega) (by omega)] at c
        rw [show sh_cost (sh_p (fb bs fr) (i + 1)) = 1 by unfold sh_cost; rw [if_pos (by omega)]] at h94
        exact h94
    have f55 : ¬ (0 < i ∧ fb bs fr i = fb bs fr (i - 1) ∧ sh_p (fb bs fr) i < 255) → zi_X l (zx_rm (d + 1) 0 0) M_BlockMaker_shorten K RJ Q 55 [(0, .ref b), (1, .ref ro), (2, .int (nI fr)), (3, .int (nI lim)), (4, .int (nI (sh_p (fb bs fr) i))), (5, .int (nI (fr + i)))] [] I := by
      intro h
      have e := sh_p_s (fb bs fr) i
      rw [if_neg h] at e
      have h71 := f71 0
      rw [e] at h71
      exact r_BlockMaker_shorten_55 l d b ro _ _ _ _ (r_BlockMaker_shorten_56 l d b ro _ _ _ _ _ ⟨fun _ => h71, fun c => absurd rfl c⟩)
    refine r_BlockMaker_shorten_11 l d b ro _ _ _ _ g.1 ⟨fun c => ?_, fun _ => ⟨fun c => ?_, fun c => zi_mono (c_Row_get (i := fr + i) l d g ar (by omega)) ?_⟩⟩
    · rw [ar.2.1, nI_leI (by omega) (by omega)] at c
      omega
    · rw [nI_leI (by omega) (by omega)] at c
      exact f55 (by omega)
    · rw [nI_leI (by omega) (by omega)] at c
      rintro r I2 ⟨rfl, rfl⟩
      have e1 : nI (fr + i) - 1 = nI (fr + (i - 1)) := by rw [show (1 : Int32) = nI 1 from rfl, pk_sub (by omega), show fr + i - 1 = fr + (i - 1) by omega]
      refine ⟨_, rfl, ?_⟩
      rw [e1]
      refine zi_mono (c_Row_get (i := fr + (i - 1)) l d g ar (by omega)) ?_
      rintro r I3 ⟨rfl, rfl⟩
      have b1 := ar.lt (fr + i)
      have b2 := ar.lt (fr + (i - 1))
      refine ⟨_, rfl, fun c2 => ?_, fun c2 => ⟨fun c3 => ?_, fun c3 => ?_⟩⟩
      · rw [nI_eq (by omega) (by omega)] at c2
        exact f55 (fun z => c2 z.2.1)
      · rw [show (255 : Int32) = nI 255 from rfl, nI_leI (by omega) (by omega)] at c3
        exact f55 (fun z => absurd z.2.2 (by omega))
      · rw [nI_eq (by omega) (by omega)] at c2
        rw [show (255 : Int32) = nI 255 from rfl, nI_leI (by omega) (by omega)] at c3
        have e := sh_p_s (fb bs fr) i
        rw [if_pos ⟨by omega, c2, by omega⟩] at e
        have h71 := f71 1
        rw [e, ← nI_1] at h71
        exact r_BlockMaker_shorten_56 l d b ro _ _ _ _ _ ⟨fun c => absurd c (by decide), fun _ => h71⟩
theorem c_shorten (l : Launch) (d : Nat) {I : zi_I} (gb : g_Block K RJ b) (g : g_Row K RJ ro N) (hN : N ≤ 400) (hd : ro + 1 < b) (hlim : lim ≤ 64) (hfr : fr ≤ bs.length) (ar : a_Row I ro N bs) :
    zi_C l (zx_rm (d + 1) 0 0) M_BlockMaker_shorten [.ref b, .ref ro, .int (nI fr), .int (nI lim)] K RJ I (fun r I2 => r = some (.int (nI (fr + sh_go (fb bs fr) lim (bs.length - fr) 0))) ∧ aL I2 b 2 (b + 1) (sh_F (fb bs fr) (sh_go (fb bs fr) lim (bs.length - fr) 0)) ∧ zg b [2] [b + 1] I I2) := by
  have z : zg b [2] [b + 1] I (zx_u2 I b 2 0) := zg_fld (by simp)
  exact zi_of (by decide) (fun α => Nat.le_of_ble_eq_true rfl) (r_BlockMaker_shorten_0 l d b ro _ _ gb.k (t_sh11 (bs := bs) (N := N) (fr := fr) (lim := lim) l d gb g hN hd hlim hfr (bs.length - fr) 0 _ (by omega) (ar.keep z.2 (by simp; omega) (by simp; omega)) ⟨by rw [zx_u2_s]; rfl, fun i hi => absurd hi (Nat.not_lt_zero _)⟩ (Nat.zero_le _) (fun I2 y1 y2 => ⟨rfl, y1, zg_trans z y2⟩)))
end CF
