/-! The class sorts rotations. -/
def g_Maker (K : zx_Kt) (RJ : zx_RJ) (o : Nat) : Prop := ((K.2 o).1 = 10) ∧ (RJ.1 o 0 = o + 1) ∧ (K.2 (o + 1) = (0, 64)) ∧ (RJ.1 o 1 = o + 2) ∧ (K.2 (o + 2) = (0, 256)) ∧ (RJ.1 o 2 = o + 3) ∧ (g_ML K RJ (o + 3)) ∧ (RJ.1 o 3 = o + 5) ∧ (g_Picker K RJ (o + 5))
theorem g_Maker.k {K : zx_Kt} {RJ : zx_RJ} {o : Nat} (h : g_Maker K RJ o) : (K.2 o).1 = 10 := h.1
theorem g_Maker.oR {K : zx_Kt} {RJ : zx_RJ} {o : Nat} (h : g_Maker K RJ o) : RJ.1 o 0 = o + 1 := h.2.1
theorem g_Maker.oK {K : zx_Kt} {RJ : zx_RJ} {o : Nat} (h : g_Maker K RJ o) : K.2 (o + 1) = (0, 64) := h.2.2.1
theorem g_Maker.pR {K : zx_Kt} {RJ : zx_RJ} {o : Nat} (h : g_Maker K RJ o) : RJ.1 o 1 = o + 2 := h.2.2.2.1
theorem g_Maker.pK {K : zx_Kt} {RJ : zx_RJ} {o : Nat} (h : g_Maker K RJ o) : K.2 (o + 2) = (0, 256) := h.2.2.2.2.1
theorem g_Maker.lR {K : zx_Kt} {RJ : zx_RJ} {o : Nat} (h : g_Maker K RJ o) : RJ.1 o 2 = o + 3 := h.2.2.2.2.2.1
theorem g_Maker.l {K : zx_Kt} {RJ : zx_RJ} {o : Nat} (h : g_Maker K RJ o) : g_ML K RJ (o + 3) := h.2.2.2.2.2.2.1
theorem g_Maker.cR {K : zx_Kt} {RJ : zx_RJ} {o : Nat} (h : g_Maker K RJ o) : RJ.1 o 3 = o + 5 := h.2.2.2.2.2.2.2.1
theorem g_Maker.c {K : zx_Kt} {RJ : zx_RJ} {o : Nat} (h : g_Maker K RJ o) : g_Picker K RJ (o + 5) := h.2.2.2.2.2.2.2.2
section CS
variable {K : zx_Kt} {RJ : zx_RJ} {o b n : Nat} {f : Nat → Nat}
/-- the shortened bytes of a block -/
def a_Sh (I : zi_I) (b n : Nat) (f : Nat → Nat) : Prop := I b 2 = nI n ∧ ∀ i, i < n → I (b + 1) i = nI (f i)
theorem a_Sh.keep {I I2 : zi_I} {S : List Nat} (a : a_Sh I b n f) (h : zf S I I2) (h1 : b ∉ S) (h2 : b + 1 ∉ S) : a_Sh I2 b n f := ⟨by rw [zf_at h h1]; exact a.1, fun k hk => by rw [zf_at h h2]; exact a.2 k hk⟩
theorem t_ib2 (l : Launch) (d : Nat) {I : zi_I} {a c : Nat} {Q : zi_Q} (gb : g_Block K RJ b) (hn : n ≤ 64) (ha : a < 64) (hc : c < 64) (hf : ∀ i, i < n → f i < 256) (as : a_Sh I b n f) (q : Q (some (.int (if so_l f n a c false 0 n = true then 1 else 0))) I) :
    ∀ j k, k + j = n → so_l f n a c false k j = so_l f n a c false 0 n → zi_X l (zx_rm d 0 0) M_BlockMaker_isBefore K RJ Q 2 [(0, .ref b), (1, .int (nI a)), (2, .int (nI c)), (3, .int (nI k))] [] I := by
  intro j
  induction j with
  | zero =>
    intro k hk e
    obtain rfl : k = n := by omega
    refine r_BlockMaker_isBefore_2 l d b _ _ _ gb.k gb.sh.1 (by omega) gb.sh.2 ⟨fun _ => ?_, fun c => ?_⟩
    · have e2 : so_l f k a c false 0 k = false := e.symm
      rw [e2] at q
      exact q
    · rw [as.1, nI_leI (by omega) (by omega)] at c
      omega
  | succ j ih =>
    intro k hk e
    have m1 := Nat.mod_lt (a + k) (show 0 < n by omega)
    have m2 := Nat.mod_lt (c + k) (show 0 < n by omega)
    have h1 := hf _ m1
    have h2 := hf _ m2
    have e1 : (nI a + nI k) - (nI a + nI k) / I b 2 * I b 2 = nI ((a + k) % n) := by
      rw [as.1, nI_add]
      exact pk_rem (d := n) (by omega) (by omega) (by omega)
    have e2 : (nI c + nI k) - (nI c + nI k) / I b 2 * I b 2 = nI ((c + k) % n) := by
      rw [as.1, nI_add]
      exact pk_rem (d := n) (by omega) (by omega) (by omega)
    have nz : ¬ I b 2 = 0 := by
      rw [as.1, show (0 : Int32) = nI 0 from rfl, nI_eq (by omega) (by omega)]
      omega
    rw [so_l_s] at e
    refine r_BlockMaker_isBefore_2 l d b _ _ _ gb.k gb.sh.1 (by omega) gb.sh.2 ⟨fun c => ?_, fun _ => ⟨nz, _, e1, by omega, nz, _, e2, by omega, fun x => ?_, fun x => ?_⟩⟩
    · rw [as.1, nI_leI (by omega) (by omega)] at c
      omega
    · rw [as.2 _ m1, as.2 _ m2, nI_eq (by omega) (by omega)] at x
      rw [if_pos x] at e
      rw [nI_1]
      exact ih (k + 1) (by omega) e
    · rw [as.2 _ m1, as.2 _ m2, nI_eq (by omega) (by omega)] at x
      rw [if_neg x] at e
      rw [as.2 _ m1, as.2 _ m2, nI_leI (by omega) (by omega)]
      refine ⟨fun y => ?_, fun y => ?_⟩
      · rw [← e, if_neg (by rw [decide_eq_true_iff]; omega)] at q
        exact q
      · rw [← e, if_pos (by rw [decide_eq_true_iff]; omega)] at q
        exact q
theorem c_isBefore (l : Launch) (d : Nat) {I : zi_I} {a c : Nat} (gb : g_Block K RJ b) (hn : n ≤ 64) (ha : a < 64) (hc : c < a) (hf : ∀ i, i < n → f i < 256) (as : a_Sh I b n f) :
    zi_C l (zx_rm d 0 0) M_BlockMaker_isBefore [.ref b, .int (nI a), .int (nI c)] K RJ I (fun r I2 => r = some (.int (if so f n a c = true then 1 else 0)) ∧ I2 = I) := by
  refine zi_of (by decide) (fun α => Nat.le_of_ble_eq_true rfl) (r_BlockMaker_isBefore_0 l d b _ _ ?_)
  rw [← so_cls hc]
  exact t_ib2 (n := n) (f := f) (Q := fun r I2 => r = some (.int (if so_l f n a c false 0 n = true then 1 else 0)) ∧ I2 = I) l d gb hn ha (by omega) hf as ⟨rfl, rfl⟩ n 0 (by omega) rfl
theorem t_sr15 (l : Launch) (d : Nat) {I : zi_I} {i : Nat} {Q : zi_Q} (g : g_Maker K RJ o) (gb : g_Block K RJ b) (hn : n ≤ 64) (hi : i < n) (hf : ∀ i, i < n → f i < 256) (as : a_Sh I b n f) (ao : aA I (o + 1) (so_L f n i))
    (q : ∀ I2, aA I2 (o + 1) (so_L f n (i + 1)) → zf [o + 1] I I2 → zi_X l (zx_rm (d + 1) 0 0) M_BlockMaker_sortRotations K RJ Q 2 [(0, .ref o), (1, .ref b), (2, .int (nI i + 1))] [] I2) :
    ∀ (j lo hi' : Nat), hi' - lo ≤ j → lo ≤ hi' → hi' ≤ i → (∀ p, p < lo → so f n ((so_L f n i).getD p 0) i = true) → (∀ p, hi' ≤ p → p < i → so f n i ((so_L f n i).getD p 0) = true) →
      zi_X l (zx_rm (d + 1) 0 0) M_BlockMaker_sortRotations K RJ Q 15 [(0, .ref o), (1, .ref b), (2, .int (nI i)), (3, .int (nI lo)), (4, .int (nI hi'))] [] I := by
  have hl := so_L_len (f := f) (n := n) i
  have hs := so_L_sorted (f := f) (n := n) i
  have fin : ∀ lo, lo ≤ i → (∀ p, p < lo → so f n ((so_L f n i).getD p 0) i = true) → (∀ p, lo ≤ p → p < i → so f n i ((so_L f n i).getD p 0) = true) → zi_X l (zx_rm (d + 1) 0 0) M_BlockMaker_sortRotations K RJ Q 15 [(0, .ref o), (1, .ref b), (2, .int (nI i)), (3, .int (nI lo)), (4, .int (nI lo))] [] I := by
    intro lo hlo h1 h2
    have ec : so_c f n (so_L f n i) i = lo := so_cut (by omega) h1 (fun p a b => so_asym (h2 p a (by omega)))
    refine r_BlockMaker_sortRotations_15 l d o b _ _ _ g.k g.oR (by omega) g.oK ⟨fun _ => ⟨lo, lo + 1, i - lo, rfl, nI_1 _, pk_sub hlo, by omega, by omega, lo, rfl, by omega, ?_⟩, fun c => absurd (nI_le (Nat.le_refl _) (by omega)) c⟩
    refine q _ (fun p hp => ?_) (zf_trans (zf_cpy (by simp)) (zf_u2 (by simp)))
    rw [so_L_len] at hp
    show _ = nI ((so_in (so_L f n i) (so_c f n (so_L f n i) i) i).getD p 0)
    rw [ec, so_in_get (by omega)]
    by_cases e : p = lo
    · rw [e, zx_u2_s, if_neg (by omega), if_pos rfl]
    · rw [zx_u2_k e, if_neg e]
      simp only [zi_cpy, if_pos]
      by_cases h : p < lo
      · rw [pk_cpy_out (by omega), if_pos h, ao p (by omega)]
      · rw [pk_cpy_in (by omega) (by omega), if_neg h, show lo + (p - (lo + 1)) = p - 1 by omega, ao _ (by omega)]
  intro j
  induction j with
  | zero =>
    intro lo hi' h0 h1 h2 h3 h4
    obtain rfl : lo = hi' := by omega
    exact fin lo h2 h3 h4
  | succ j ih =>
    intro lo hi' h0 h1 h2 h3 h4
    by_cases e : lo = hi'
    · subst e
      exact fin lo h2 h3 h4
    · have em : (nI lo + nI hi') / 2 = nI ((lo + hi') / 2) := by
        rw [nI_add]
        exact pk_div (d := 2) (by omega) (by omega) (by omega)
      have hm := so_L_lt (f := f) (n := n) (show (lo + hi') / 2 < i by omega)
      refine r_BlockMaker_sortRotations_15 l d o b _ _ _ g.k g.oR (by omega) g.oK ⟨fun c => ?_, fun _ => ⟨(lo + hi') / 2, em, by omega, ?_⟩⟩
      · rw [nI_leI (by omega) (by omega)] at c
        omega
      · rw [ao _ (by omega), em]
        refine zi_mono (c_isBefore (n := n) (f := f) l d gb hn (by omega) hm hf as) ?_
        rintro r I2 ⟨rfl, rfl⟩
        refine ⟨_, rfl, fun c => ?_, fun c => ?_⟩
        · have c2 : so f n i ((so_L f n i).getD ((lo + hi') / 2) 0) = false := by
            cases h : so f n i ((so_L f n i).getD ((lo + hi') / 2) 0) with
            | false => rfl
            | true =>
              rw [if_pos h] at c
              exact absurd c (by decide)
          have c3 := so_tot (by omega) c2
          rw [nI_1]
          refine ih _ hi' (by omega) (by omega) h2 (fun p hp => ?_) h4
          by_cases e2 : p = (lo + hi') / 2
          · rw [e2]
            exact c3
          · exact so_trans (hs p _ (by omega) (by omega)) c3
        · have c2 : so f n i ((so_L f n i).getD ((lo + hi') / 2) 0) = true := by
            cases h : so f n i ((so_L f n i).getD ((lo + hi') / 2) 0) with
            | true => rfl
            | false =>
              rw [if_neg (by rw [h]; decide)] at c
              exact absurd rfl c
          refine ih lo _ (by omega) (by omega) (by omega) h3 (fun p h5 h6 => ?_)
          by_cases e2 : p = (lo + hi') / 2
          · rw [e2]
            exact c2
          · exact so_trans c2 (hs _ p (by omega) (by omega))
theorem t_sr2 (l : Launch) (d : Nat) {Q : zi_Q} (g : g_Maker K RJ o) (gb : g_Block K RJ b) (hd : o + 11 < b) (hn : n ≤ 64) (hf : ∀ i, i < n → f i < 256) :
    ∀ (j i : Nat) (I : zi_I), i + j = n → a_Sh I b n f → aA I (o + 1) (so_L f n i) →
      (∀ I2, aA I2 (o + 1) (so_L f n n) → zf [o + 1] I I2 → Q none I2) →
      zi_X l (zx_rm (d + 1) 0 0) M_BlockMaker_sortRotations K RJ Q 2 [(0, .ref o), (1, .ref b), (2, .int (nI i))] [] I := by
  intro j
  induction j with
  | zero =>
    intro i I hi as ao q
    obtain rfl : i = n := by omega
    refine r_BlockMaker_sortRotations_2 l d o b _ gb.k ⟨fun _ => q I ao zf_refl, fun c => ?_⟩
    rw [as.1, nI_leI (by omega) (by omega)] at c
    omega
  | succ j ih =>
    intro i I hi as ao q
    refine r_BlockMaker_sortRotations_2 l d o b _ gb.k ⟨fun c => ?_, fun _ => ?_⟩
    · rw [as.1, nI_leI (by omega) (by omega)] at c
      omega
    · refine t_sr15 (n := n) (f := f) (i := i) l d g gb hn (by omega) hf as ao (fun I2 y1 y2 => ?_) i 0 i (by omega) (by omega) (by omega) (fun _ h => absurd h (by omega)) (fun _ h1 h2 => absurd h2 (by omega))
      rw [nI_1]
      exact ih (i + 1) I2 (by omega) (as.keep y2 (by simp; omega) (by simp; omega)) y1 (fun I3 z1 z2 => q I3 z1 (zf_trans y2 z2))
theorem c_sortRotations (l : Launch) (d : Nat) {I : zi_I} (g : g_Maker K RJ o) (gb : g_Block K RJ b) (hd : o + 11 < b) (hn : n ≤ 64) (hf : ∀ i, i < n → f i < 256) (as : a_Sh I b n f) :
    zi_C l (zx_rm (d + 1) 0 0) M_BlockMaker_sortRotations [.ref o, .ref b] K RJ I (fun r I2 => r = none ∧ aA I2 (o + 1) (so_L f n n) ∧ zf [o + 1] I I2) :=
  zi_of (by decide) (fun α => Nat.le_of_ble_eq_true rfl) (r_BlockMaker_sortRotations_0 l d o b (t_sr2 (n := n) (f := f) l d g gb hd hn hf n 0 I (by omega) as (fun _ h => absurd h (Nat.not_lt_zero _)) (fun I2 y1 y2 => ⟨rfl, y1, y2⟩)))
theorem t_ro2 (l : Launch) (d : Nat) {Q : zi_Q} (g : g_Maker K RJ o) (gb : g_Block K RJ b) (hd : o + 11 < b) (hn : n ≤ 64) (hf : ∀ i, i < n → f i < 256) :
    ∀ (j p : Nat) (I : zi_I), p + j = n → a_Sh I b n f → aA I (o + 1) (so_L f n n) → (∀ i, i < p → I (b + 2) i = nI ((so_col f n).getD i 0)) → (so_P f n 0 < p → I b 1 = nI (so_P f n 0)) →
      (∀ I2, (∀ i, i < n → I2 (b + 2) i = nI ((so_col f n).getD i 0)) → (0 < n → I2 b 1 = nI (so_P f n 0)) → zg b [1] [b + 2] I I2 → Q none I2) →
      zi_X l (zx_rm d 0 0) M_BlockMaker_readOrder K RJ Q 2 [(0, .ref o), (1, .ref b), (2, .int (nI p))] [] I := by
  intro j
  induction j with
  | zero =>
    intro p I hp as ao hc ho q
    obtain rfl : p = n := by omega
    refine r_BlockMaker_readOrder_2 l d o b _ gb.k g.k g.oR (by omega) g.oK gb.co.1 (by omega) gb.sh.1 (by omega) gb.sh.2 gb.co.2 ⟨fun _ => q I hc (fun h => ho (so_P_lt h).1) zg_refl, fun c => ?_⟩
    rw [as.1, nI_leI (by omega) (by omega)] at c
    omega
  | succ j ih =>
    intro p I hp as ao hc ho q
    have hlt := so_L_lt (f := f) (n := n) (show p < n by omega)
    have hat := so_P_at (f := f) (show p < n by omega)
    have hl := so_L_len (f := f) (n := n) n
    have er : I (o + 1) p = nI ((so_L f n n).getD p 0) := ao p (by omega)
    have ecol := so_col_at (f := f) (show p < n by omega)
    have nx : ∀ (v : Nat) (I1 : zi_I), zg b [1] [b + 2] I I1 → (∀ i, I1 (b + 2) i = I (b + 2) i) → v = (so_col f n).getD p 0 → (so_P f n 0 < p + 1 → I1 b 1 = nI (so_P f n 0)) → zi_X l (zx_rm d 0 0) M_BlockMaker_readOrder K RJ Q 2 [(0, .ref o), (1, .ref b), (2, .int (nI p + 1))] [] (zx_u2 I1 (b + 2) p (nI v)) := by
      intro v I1 z1 e1 ev ho1
      rw [nI_1]
      have z2 : zg b [1] [b + 2] I (zx_u2 I1 (b + 2) p (nI v)) := zg_trans z1 (zg_arr (by simp) (by omega))
      refine ih (p + 1) _ (by omega) ⟨by rw [z2.1 2 (by simp)]; exact as.1, fun i hi => by rw [zg_cell z2 (by omega) (by simp)]; exact as.2 i hi⟩ (fun i hi => by rw [zg_cell z2 (by omega) (by simp; omega)]; exact ao i hi) (fun i hi => ?_) (fun h => by rw [zx_u2_ne (by omega)]; exact ho1 h) (fun I3 y1 y2 y3 => q I3 y1 y2 (zg_trans z2 y3))
      by_cases e : i = p
      · rw [e, zx_u2_s, ev]
      · rw [zx_u2_k e, e1]
        exact hc i (by omega)
    refine r_BlockMaker_readOrder_2 l d o b _ gb.k g.k g.oR (by omega) g.oK gb.co.1 (by omega) gb.sh.1 (by omega) gb.sh.2 gb.co.2 ⟨fun c => ?_, fun _ => ⟨p, rfl, by omega, fun c => ⟨fun _ => ?_, fun c2 => absurd c2 c⟩, fun c => ⟨fun c2 => absurd c c2, fun _ => ?_⟩⟩⟩
    · rw [as.1, nI_leI (by omega) (by omega)] at c
      omega
    · rw [er, show (0 : Int32) = nI 0 from rfl, nI_eq (by omega) (by omega)] at c
      refine ⟨(so_L f n n).getD p 0 - 1, ?_, by omega, p, rfl, by omega, ?_⟩
      · rw [er, show (1 : Int32) = nI 1 from rfl, pk_sub (by omega)]
      · rw [as.2 _ (by omega)]
        refine nx _ I zg_refl (fun _ => rfl) ?_ (fun h => ho ?_)
        · rw [ecol, show (so_L f n n).getD p 0 + n - 1 = (so_L f n n).getD p 0 - 1 + n by omega, Nat.add_mod_right, Nat.mod_eq_of_lt (by omega)]
        · by_cases e : so_P f n 0 = p
          · have e2 := so_P_inj (f := f) (show 0 < n by omega) hlt (by rw [hat, e])
            omega
          · omega
    · rw [er, show (0 : Int32) = nI 0 from rfl, nI_eq (by omega) (by omega)] at c
      refine ⟨n - 1, ?_, by omega, p, rfl, by omega, ?_⟩
      · rw [as.1, show (1 : Int32) = nI 1 from rfl, pk_sub (by omega)]
      · rw [zx_u2_ne (by omega), as.2 _ (by omega)]
        rw [c] at hat
        refine nx _ _ (zg_fld (by simp)) (fun i => zx_u2_ne (by omega)) ?_ (fun h => by rw [zx_u2_s, hat])
        rw [ecol, c, Nat.zero_add, Nat.mod_eq_of_lt (by omega)]
theorem c_readOrder (l : Launch) (d : Nat) {I : zi_I} (g : g_Maker K RJ o) (gb : g_Block K RJ b) (hd : o + 11 < b) (hn : n ≤ 64) (hf : ∀ i, i < n → f i < 256) (as : a_Sh I b n f) (ao : aA I (o + 1) (so_L f n n)) :
    zi_C l (zx_rm d 0 0) M_BlockMaker_readOrder [.ref o, .ref b] K RJ I (fun r I2 => r = none ∧ (∀ i, i < n → I2 (b + 2) i = nI ((so_col f n).getD i 0)) ∧ (0 < n → I2 b 1 = nI (so_P f n 0)) ∧ zg b [1] [b + 2] I I2) :=
  zi_of (by decide) (fun α => Nat.le_of_ble_eq_true rfl) (r_BlockMaker_readOrder_0 l d o b (t_ro2 (n := n) (f := f) l d g gb hd hn hf n 0 I (by omega) as ao (fun _ h => absurd h (by omega)) (fun h => absurd h (by omega)) (fun I2 y1 y2 y3 => ⟨rfl, y1, y2, y3⟩)))
end CS
