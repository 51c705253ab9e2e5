/-! The reference reads picks and tables. -/
section MTB
variable {K : zx_Kt} {RJ : zx_RJ} {m p : Nat} {bs : List Nat}
theorem t_rpm28 (l : Launch) (d : Nat) {Q : zi_Q} {T i bg : Nat} (g : g_Mod K RJ m) (hi : i < 63) (hT : T ≤ 4) {xs ys : List Nat} (hx : xs.length = T) (hxy : xs.length + ys.length = 4) :
    ∀ (j k p : Nat) (I : zi_I), k + (j + 1) = T → a_In I m bs → I m 7 = nI p → p ≤ 8 * bs.length → I m 8 = 0 → I m 25 = nI T → aA I (m + 13) (xs ++ ys) →
      (∀ I2 k2 q2, rd_one bs bg (j + 1) k p = .inr (k2, q2) → k2 < T → I2 m 8 = 0 → I2 m 7 = nI q2 → q2 ≤ 8 * bs.length → aA I2 (m + 13) (mv_to xs k2 ++ ys) → I2 (m + 12) i = nI (xs.getD k2 0) → (∀ k, k ≠ i → I2 (m + 12) k = I (m + 12) k) → zg m [7, 8, 9] [m + 12, m + 13] I I2 → zi_X l (zx_rm (d + 2) 0 0) M_Mod_readPicks K RJ Q 6 [(0, .ref m), (1, .int (nI i + 1))] [] I2) →
      (∀ I2 e, rd_one bs bg (j + 1) k p = .inl e → I2 m 8 = e.1 → I2 m 9 = nI e.2 → e.1 ≠ 0 → (∃ p2, p2 ≤ 8 * bs.length ∧ I2 m 7 = nI p2) → zg m [7, 8, 9] [m + 12, m + 13] I I2 → Q none I2) →
      zi_X l (zx_rm (d + 2) 0 0) M_Mod_readPicks K RJ Q 28 [(0, .ref m), (1, .int (nI i)), (2, .int (nI bg)), (3, .int (nI k))] [] I := by
  -- from a fault on
  have bad : ∀ I : zi_I, ¬ I m 8 = 0 → (∀ I2, zg m [] [m + 12] I I2 → Q none I2) → zi_X l (zx_rm (d + 2) 0 0) M_Mod_readPicks K RJ Q 6 [(0, .ref m), (1, .int (nI i + 1))] [] (zx_u2 I (m + 12) i 0) := fun I h q => by
    have q1 := q (zx_u2 I (m + 12) i 0) (zg_arr (by simp) (by omega))
    exact r_Mod_readPicks_6 l (d + 1) m _ g.1 ⟨fun _ => q1, fun _ => ⟨fun _ => q1, fun c => absurd c (by rw [zx_u2_ne (by omega)]; exact h)⟩⟩
  intro j
  induction j with
  | zero =>
    intro k p I hk a h7 hp h8 h25 ao q1 q2
    refine r_Mod_readPicks_28 l (d + 1) m _ _ _ g.1 g.picksR (by omega) g.picksK ⟨fun c => absurd h8 c, fun _ => zi_mono (c_mt (k := 1) l d g a h7 hp h8 (by decide)) ?_⟩
    rintro r I2 ⟨⟨v, rfl, hv⟩, z⟩
    have z1 : zg m [7, 8, 9] [m + 12, m + 13] I I2 := zg_mono z (by simp) (by simp)
    rcases hv with ⟨e1, rfl, e3, e4⟩ | ⟨e1, rfl, e3, e4, e5⟩
    · have eb : bt_num bs p 1 = bt_at bs p := by
        show 2 * 0 + bt_at bs (p + 0) = _
        rw [Nat.add_zero]
        omega
      rw [eb]
      refine ⟨_, rfl, fun c => ⟨fun c2 => absurd e4 c2, fun _ => ?_⟩, fun c => ⟨fun c2 => ?_, fun c2 => zi_mono (c_fi l d g.1) ?_⟩⟩
      · have b0 : bt_at bs p = 0 := by
          rcases b_lt2 bs p with h | h
          · exact h
          · rw [h] at c
            exact absurd rfl c
        refine zi_mono (c_orderFront (k := k) l (d + 1) g (by omega)) ?_
        rintro r I3 ⟨rfl, rfl⟩
        have ao2 : aA I2 (m + 13) (xs ++ ys) := fun x hx => by rw [zg_cell z (by omega) (by simp)]; exact ao x hx
        have ev : I2 (m + 13) k = nI (xs.getD k 0) := by
          rw [ao2 k (by rw [List.length_append]; omega)]
          simp only [List.getD_eq_getElem?_getD]
          rw [List.getElem?_append_left (by omega)]
        refine ⟨_, rfl, i, rfl, by omega, ?_⟩
        rw [ev]
        have z2 : zg m [7, 8, 9] [m + 12, m + 13] I2 (zx_u2 (mvF I2 (m + 13) k) (m + 12) i (nI (xs.getD k 0))) := zg_trans (zg_mvF (by simp) (by omega)) (zg_arr (by simp) (by omega))
        have ao3 := mvF_aA ao2 (k := k) (by rw [List.length_append]; omega)
        rw [mv_app (by omega)] at ao3
        refine q1 _ k (p + 1) ?_ (by omega) ?_ ?_ (by omega) (fun x hx => by rw [zx_u2_ne (by omega)]; exact ao3 x hx) zx_u2_s (fun x hx => ?_) (zg_trans z1 z2)
        · unfold rd_one
          rw [if_pos (by omega), if_neg (by omega)]
        · rw [zx_u2_ne (by omega)]
          unfold mvF
          rw [if_neg (by omega)]
          exact e4
        · rw [zx_u2_ne (by omega)]
          unfold mvF
          rw [if_neg (by omega)]
          exact e3
        · rw [zx_u2_k hx]
          unfold mvF
          rw [if_neg (by omega), zg_cell z (by omega) (by simp)]
      · exact absurd (by rw [z.1 25 (by simp), h25, nI_1, show k + 1 = T by omega]) c2
      · have b1 : bt_at bs p = 1 := by
          rcases b_lt2 bs p with h | h
          · rw [h] at c
            exact absurd c (by decide)
          · exact h
        rintro r I3 ⟨rfl, (⟨_, _, h1, h2, h3, h4⟩ | ⟨h, _⟩)⟩
        · have n3 : ¬ I3 m 8 = 0 := by rw [h1]; decide
          refine ⟨rfl, r_Mod_readPicks_28 l (d + 1) m _ _ _ g.1 g.picksR (by omega) g.picksK ⟨fun _ => ⟨fun _ => ⟨i, rfl, by omega, bad I3 n3 (fun I4 y => q2 I4 (-8, bg) ?_ (by rw [y.1 8 (by simp)]; exact h1) (by rw [y.1 9 (by simp)]; exact h2) (by dsimp only; decide) ⟨p + 1, by omega, by rw [y.1 7 (by simp), h3]; exact e3⟩ (zg_trans (zg_trans z1 (zg_mono h4 (by simp) (by simp))) (zg_mono y (by simp) (by simp))))⟩, fun c => absurd c n3⟩, fun c => absurd c n3⟩⟩
          unfold rd_one
          rw [if_pos (by omega), if_pos b1]
          rfl
        · exact absurd ⟨by decide, e4⟩ h
    · have n2 : ¬ I2 m 8 = 0 := by rw [e4]; decide
      refine ⟨_, rfl, fun _ => ⟨fun _ => ⟨i, rfl, by omega, bad I2 n2 (fun I4 y => q2 I4 (-2, bg) ?_ (by rw [y.1 8 (by simp)]; exact e4) (by rw [y.1 9 (by simp)]; exact e5) (by dsimp only; decide) ⟨p, hp, by rw [y.1 7 (by simp)]; exact e3⟩ (zg_trans z1 (zg_mono y (by simp) (by simp))))⟩, fun c => absurd c n2⟩, fun c => absurd c (by decide)⟩
      unfold rd_one
      rw [if_neg (by omega)]
  | succ j ih =>
    intro k p I hk a h7 hp h8 h25 ao q1 q2
    refine r_Mod_readPicks_28 l (d + 1) m _ _ _ g.1 g.picksR (by omega) g.picksK ⟨fun c => absurd h8 c, fun _ => zi_mono (c_mt (k := 1) l d g a h7 hp h8 (by decide)) ?_⟩
    rintro r I2 ⟨⟨v, rfl, hv⟩, z⟩
    have z1 : zg m [7, 8, 9] [m + 12, m + 13] I I2 := zg_mono z (by simp) (by simp)
    rcases hv with ⟨e1, rfl, e3, e4⟩ | ⟨e1, rfl, e3, e4, e5⟩
    · have eb : bt_num bs p 1 = bt_at bs p := by
        show 2 * 0 + bt_at bs (p + 0) = _
        rw [Nat.add_zero]
        omega
      rw [eb]
      refine ⟨_, rfl, fun c => ⟨fun c2 => absurd e4 c2, fun _ => ?_⟩, fun c => ⟨fun c2 => zi_mono (c_fi l d g.1) ?_, fun c2 => ?_⟩⟩
      · have b0 : bt_at bs p = 0 := by
          rcases b_lt2 bs p with h | h
          · exact h
          · rw [h] at c
            exact absurd rfl c
        refine zi_mono (c_orderFront (k := k) l (d + 1) g (by omega)) ?_
        rintro r I3 ⟨rfl, rfl⟩
        have ao2 : aA I2 (m + 13) (xs ++ ys) := fun x hx => by rw [zg_cell z (by omega) (by simp)]; exact ao x hx
        have ev : I2 (m + 13) k = nI (xs.getD k 0) := by
          rw [ao2 k (by rw [List.length_append]; omega)]
          simp only [List.getD_eq_getElem?_getD]
          rw [List.getElem?_append_left (by omega)]
        refine ⟨_, rfl, i, rfl, by omega, ?_⟩
        rw [ev]
        have z2 : zg m [7, 8, 9] [m + 12, m + 13] I2 (zx_u2 (mvF I2 (m + 13) k) (m + 12) i (nI (xs.getD k 0))) := zg_trans (zg_mvF (by simp) (by omega)) (zg_arr (by simp) (by omega))
        have ao3 := mvF_aA ao2 (k := k) (by rw [List.length_append]; omega)
        rw [mv_app (by omega)] at ao3
        refine q1 _ k (p + 1) ?_ (by omega) ?_ ?_ (by omega) (fun x hx => by rw [zx_u2_ne (by omega)]; exact ao3 x hx) zx_u2_s (fun x hx => ?_) (zg_trans z1 z2)
        · unfold rd_one
          rw [if_pos (by omega), if_neg (by omega)]
        · rw [zx_u2_ne (by omega)]
          unfold mvF
          rw [if_neg (by omega)]
          exact e4
        · rw [zx_u2_ne (by omega)]
          unfold mvF
          rw [if_neg (by omega)]
          exact e3
        · rw [zx_u2_k hx]
          unfold mvF
          rw [if_neg (by omega), zg_cell z (by omega) (by simp)]
      · have b1 : bt_at bs p = 1 := by
          rcases b_lt2 bs p with h | h
          · rw [h] at c
            exact absurd c (by decide)
          · exact h
        rintro r I3 ⟨rfl, (⟨h, _⟩ | ⟨_, rfl⟩)⟩
        · exact absurd rfl h
        · rw [nI_1]
          have e6 : rd_one bs bg (j + 1 + 1) k p = rd_one bs bg (j + 1) (k + 1) (p + 1) := by
            show (if p < 8 * bs.length then (if bt_at bs p = 1 then rd_one bs bg (j + 1) (k + 1) (p + 1) else .inr (k, p + 1)) else .inl (-2, bg)) = _
            rw [if_pos (by omega), if_pos b1]
          rw [e6] at q1 q2
          exact ⟨rfl, ih (k + 1) (p + 1) I3 (by omega) (a.keepg z1 (by simp) (by simp)) e3 (by omega) e4 (by rw [z1.1 25 (by simp)]; exact h25) (fun x hx => by rw [zg_cell z (by omega) (by simp)]; exact ao x hx) (fun I4 k2 q3 y1 y2 y3 y4 y5 y6 y7 y8 y9 => q1 I4 k2 q3 y1 y2 y3 y4 y5 y6 y7 (fun x hx => by rw [y8 x hx, zg_cell z (by omega) (by simp)]) (zg_trans z1 y9)) (fun I4 e y1 y2 y3 y4 y5 y6 => q2 I4 e y1 y2 y3 y4 y5 (zg_trans z1 y6))⟩
      · rw [z.1 25 (by simp), h25, nI_1, nI_eq (by omega) (by omega)] at c2
        omega
    · have n2 : ¬ I2 m 8 = 0 := by rw [e4]; decide
      refine ⟨_, rfl, fun _ => ⟨fun _ => ⟨i, rfl, by omega, bad I2 n2 (fun I4 y => q2 I4 (-2, bg) ?_ (by rw [y.1 8 (by simp)]; exact e4) (by rw [y.1 9 (by simp)]; exact e5) (by dsimp only; decide) ⟨p, hp, by rw [y.1 7 (by simp)]; exact e3⟩ (zg_trans z1 (zg_mono y (by simp) (by simp))))⟩, fun c => absurd c n2⟩, fun c => absurd c (by decide)⟩
      unfold rd_one
      rw [if_neg (by omega)]
theorem t_rpm6 (l : Launch) (d : Nat) {Q : zi_Q} {T G : Nat} (g : g_Mod K RJ m) (hT0 : 0 < T) (hT : T ≤ 4) (hG : G ≤ 63) {ys : List Nat} (hy : T + ys.length = 4) :
    ∀ (j i p : Nat) (xs out : List Nat) (I : zi_I), i + j = G → out.length = i → a_In I m bs → I m 7 = nI p → p ≤ 8 * bs.length → I m 8 = 0 → I m 25 = nI T → I m 28 = nI G → aA I (m + 13) (xs ++ ys) → xs.length = T → (∀ k, k < i → I (m + 12) k = nI (out.getD k 0)) →
      (∀ I2, md_post (rd_picks bs T j xs out p) (8 * bs.length) m I2 (fun L => L.length = G ∧ ∀ k, k < G → I2 (m + 12) k = nI (L.getD k 0)) → zg m [7, 8, 9] [m + 12, m + 13] I I2 → Q none I2) →
      zi_X l (zx_rm (d + 2) 0 0) M_Mod_readPicks K RJ Q 6 [(0, .ref m), (1, .int (nI i))] [] I := by
  intro j
  induction j with
  | zero =>
    intro i p xs out I hi hl a h7 hp h8 h25 h28 ao hx ho q
    obtain rfl : i = G := by omega
    refine r_Mod_readPicks_6 l (d + 1) m _ g.1 ⟨fun _ => q I ⟨h8, h7, hp, hl, ho⟩ zg_refl, fun c => ?_⟩
    rw [h28, nI_leI (by omega) (by omega)] at c
    omega
  | succ j ih =>
    intro i p xs out I hi hl a h7 hp h8 h25 h28 ao hx ho q
    refine r_Mod_readPicks_6 l (d + 1) m _ g.1 ⟨fun c => ?_, fun _ => ⟨fun c => absurd h8 c, fun _ => ?_⟩⟩
    · rw [h28, nI_leI (by omega) (by omega)] at c
      omega
    · rw [h7]
      obtain ⟨t', rfl⟩ : ∃ t', T = t' + 1 := ⟨T - 1, by omega⟩
      refine t_rpm28 (bs := bs) (T := t' + 1) (i := i) (bg := p) (xs := xs) (ys := ys) l d g (by omega) hT hx (by omega) t' 0 p I (by omega) a h7 hp h8 h25 ao (fun I2 k2 q2 y1 y2 y3 y4 y5 y6 y7 y8 y9 => ?_) (fun I2 e y1 y2 y3 y4 y5 y6 => q I2 ?_ y6)
      · rw [nI_1]
        refine ih (i + 1) q2 (mv_to xs k2) (out ++ [xs.getD k2 0]) I2 (by omega) (by rw [List.length_append, List.length_singleton, hl]) (a.keepg y9 (by simp) (by simp)) y4 y5 y3 (by rw [y9.1 25 (by simp)]; exact h25) (by rw [y9.1 28 (by simp)]; exact h28) y6 (by rw [mv_len (by omega)]; exact hx) (fun k hk => ?_) (fun I3 w1 w2 => q I3 ?_ (zg_trans y9 w2))
        · simp only [List.getD_eq_getElem?_getD]
          by_cases e2 : k = i
          · rw [e2, y7, ← hl]
            simp
          · rw [y8 k e2, ho k (by omega), List.getElem?_append_left (by omega), List.getD_eq_getElem?_getD]
        · unfold rd_picks
          rw [y1]
          exact w1
      · unfold rd_picks
        rw [y1]
        exact ⟨y2, y3, y4, y5⟩
theorem c_mreadPicks (l : Launch) (d : Nat) {I : zi_I} {T G : Nat} (g : g_Mod K RJ m) (hT0 : 0 < T) (hT : T ≤ 4) (hG : G ≤ 63) (a : a_In I m bs) (h7 : I m 7 = nI p) (hp : p ≤ 8 * bs.length) (h8 : I m 8 = 0) (h25 : I m 25 = nI T) (h28 : I m 28 = nI G) :
    zi_C l (zx_rm (d + 2) 0 0) M_Mod_readPicks [.ref m] K RJ I (fun r I2 => r = none ∧ md_post (rd_picks bs T G (List.range T) [] p) (8 * bs.length) m I2 (fun L => L.length = G ∧ ∀ k, k < G → I2 (m + 12) k = nI (L.getD k 0)) ∧ zg m [7, 8, 9] [m + 12, m + 13] I I2) := by
  refine zi_of (by decide) (fun α => Nat.le_of_ble_eq_true rfl) (r_Mod_readPicks_0 l (d + 1) m g.1 (zi_mono (c_beginOrder l (d + 1) g) ?_))
  rintro r I2 ⟨rfl, rfl⟩
  have z : zf [m + 13] I (fun c i => if c = m + 13 ∧ i < 4 then nI i else I c i) := fun c hc => by
    funext i
    show (if c = m + 13 ∧ i < 4 then nI i else I c i) = I c i
    rw [if_neg (fun z => hc (by simp [z.1]))]
  have zz : zg m [7, 8, 9] [m + 12, m + 13] I (fun c i => if c = m + 13 ∧ i < 4 then nI i else I c i) := ⟨fun j _ => zf_at z (by simp) j, zf_mono z (by simp)⟩
  have er : List.range T ++ (List.range (4 - T)).map (T + ·) = List.range 4 := by
    rw [← List.range_add, show T + (4 - T) = 4 by omega]
  refine ⟨rfl, t_rpm6 (bs := bs) (T := T) (G := G) (ys := (List.range (4 - T)).map (T + ·)) l d g hT0 hT hG (by simp; omega) G 0 p (List.range T) [] _ (by omega) rfl (a.keepg zz (by simp) (by simp)) (Eq.trans (zf_at z (q := m) (by simp) 7) h7) hp (Eq.trans (zf_at z (q := m) (by simp) 8) h8) (Eq.trans (zf_at z (q := m) (by simp) 25) h25) (Eq.trans (zf_at z (q := m) (by simp) 28) h28) ?_ (by simp) (fun _ h => absurd h (by omega)) (fun I3 y1 y2 => ⟨rfl, y1, zg_trans zz y2⟩)⟩
  rw [er]
  intro i hi
  simp only [List.length_range] at hi
  show (if m + 13 = m + 13 ∧ i < 4 then nI i else I (m + 13) i) = _
  rw [if_pos ⟨rfl, hi⟩]
  simp [List.getD, hi]
/-- from 59 on, while no fault is met -/
theorem t_rtm59 (l : Launch) (d : Nat) {Q : zi_Q} {t s n : Nat} (g : g_Mod K RJ m) :
    ∀ (j len p : Nat) (x2 : Int32) (I : zi_I), 8 * bs.length < p + 2 * j → a_In I m bs → I m 7 = nI p → p ≤ 8 * bs.length → I m 8 = 0 → 1 ≤ len → len ≤ 12 →
      (∀ I2 v q2 y, rd_ln bs j len p = .inr (v, q2) → I2 m 8 = 0 → I2 m 7 = nI q2 → q2 ≤ 8 * bs.length → zg m [7, 8, 9] [] I I2 → zi_X l (zx_rm (d + 2) 0 0) M_Mod_readTable K RJ Q 141 [(0, .ref m), (1, .int (nI t)), (2, .int y), (3, .int (nI v)), (4, .int (nI s)), (5, .int 0)] [] I2) →
      (∀ I2 e x y w, rd_ln bs j len p = .inl e → I2 m 8 = e.1 → I2 m 9 = nI e.2 → e.1 ≠ 0 → (∃ p2, p2 ≤ 8 * bs.length ∧ I2 m 7 = nI p2) → zg m [7, 8, 9] [] I I2 → zi_X l (zx_rm (d + 2) 0 0) M_Mod_readTable K RJ Q 141 [(0, .ref m), (1, .int (nI t)), (2, .int y), (3, .int x), (4, .int (nI s)), (5, .int w)] [] I2) →
      zi_X l (zx_rm (d + 2) 0 0) M_Mod_readTable K RJ Q 59 [(0, .ref m), (1, .int (nI t)), (2, .int x2), (3, .int (nI len)), (4, .int (nI s)), (5, .int 1)] [] I := by
  intro j
  induction j with
  | zero =>
    intro len p x2 I hj a h7 hp h8 h1 h2 q1 q2
    omega
  | succ j ih =>
    intro len p x2 I hj a h7 hp h8 h1 h2 q1 q2
    have hb := a.1
    refine r_Mod_readTable_59 l (d + 1) m _ _ _ _ _ g.1 ⟨fun c => absurd c (by decide), fun _ => ⟨fun c => absurd h8 c, fun _ => ?_⟩⟩
    rw [h7]
    refine zi_mono (c_mt (k := 1) l d g a h7 hp h8 (by decide)) ?_
    rintro r I2 ⟨⟨v, rfl, hv⟩, z⟩
    rcases hv with ⟨e1, rfl, e3, e4⟩ | ⟨e1, rfl, e3, e4, e5⟩
    · have eb : bt_num bs p 1 = bt_at bs p := by
        show 2 * 0 + bt_at bs (p + 0) = _
        rw [Nat.add_zero]
        omega
      rw [eb]
      refine ⟨_, rfl, fun c => ?_, fun c => ?_⟩
      · have b0 : bt_at bs p = 0 := by
          rcases b_lt2 bs p with h | h
          · exact h
          · rw [h] at c
            exact absurd rfl c
        refine r_Mod_readTable_91 l (d + 1) m _ _ _ _ _ _ g.1 ⟨fun _ => r_Mod_readTable_59 l (d + 1) m _ _ _ _ _ g.1 ⟨fun _ => q1 I2 len (p + 1) _ ?_ e4 e3 e1 z, fun c => absurd rfl c⟩, fun c => absurd rfl c⟩
        unfold rd_ln
        rw [if_pos (by omega), if_neg (by omega)]
      · have b1 : bt_at bs p = 1 := by
          rcases b_lt2 bs p with h | h
          · rw [h] at c
            exact absurd c (by decide)
          · exact h
        have a2 := a.keepg z (by simp) (by simp)
        refine r_Mod_readTable_91 l (d + 1) m _ _ _ _ _ _ g.1 ⟨fun c => absurd c (by decide), fun _ => zi_mono (c_mt (p := p + 1) (k := 1) l d g a2 e3 e1 e4 (by decide)) ?_⟩
        rintro r I3 ⟨⟨v, rfl, hv⟩, z3⟩
        have z4 := zg_trans z z3
        rcases hv with ⟨f1, rfl, f3, f4⟩ | ⟨f1, rfl, f3, f4, f5⟩
        · have eb2 : bt_num bs (p + 1) 1 = bt_at bs (p + 1) := by
            show 2 * 0 + bt_at bs (p + 1 + 0) = _
            rw [Nat.add_zero]
            omega
          rw [eb2]
          have a3 := a.keepg z4 (by simp) (by simp)
          -- a fault of the length
          have far : ∀ x : Int32, rd_ln bs (j + 1) len p = .inl (-9, p) → zi_X l (zx_rm (d + 2) 0 0) M_Mod_readTable K RJ Q 132 [(0, .ref m), (1, .int (nI t)), (2, .int (nI p)), (3, .int x), (4, .int (nI s)), (5, .int 1)] [.int 1, .ref m] I3 := fun x hr => by
            refine r_Mod_readTable_132 l (d + 1) m _ _ _ _ _ _ m g.1 (zi_mono (c_fi l d g.1) ?_)
            rintro r I4 ⟨rfl, (⟨_, _, k1, k2, k3, k4⟩ | ⟨h, _⟩)⟩
            · have n4 : ¬ I4 m 8 = 0 := by rw [k1]; decide
              exact ⟨rfl, r_Mod_readTable_59 l (d + 1) m _ _ _ _ _ g.1 ⟨fun c => absurd c (by decide), fun _ => ⟨fun _ => q2 I4 (-9, p) x _ _ hr k1 k2 (by dsimp only; decide) ⟨p + 1 + 1, f1, by rw [k3]; exact f3⟩ (zg_trans z4 (zg_mono k4 (by simp) (by simp))), fun c => absurd c n4⟩⟩⟩
            · exact absurd ⟨by decide, f4⟩ h
          have near : ∀ v, 1 ≤ v → v ≤ 12 → rd_ln bs (j + 1) len p = rd_ln bs j v (p + 2) → zi_X l (zx_rm (d + 2) 0 0) M_Mod_readTable K RJ Q 132 [(0, .ref m), (1, .int (nI t)), (2, .int (nI p)), (3, .int (nI v)), (4, .int (nI s)), (5, .int 1)] [.int 0, .ref m] I3 := fun v v1 v2 hr => by
            refine r_Mod_readTable_132 l (d + 1) m _ _ _ _ _ _ m g.1 (zi_mono (c_fi l d g.1) ?_)
            rintro r I4 ⟨rfl, (⟨h, _⟩ | ⟨_, rfl⟩)⟩
            · exact absurd rfl h
            · rw [hr] at q1 q2
              exact ⟨rfl, ih v (p + 2) _ I4 (by omega) a3 f3 f1 f4 v1 v2 (fun I5 w q3 y y1 y2 y3 y4 y5 => q1 I5 w q3 y y1 y2 y3 y4 (zg_trans z4 y5)) (fun I5 e x y w y1 y2 y3 y4 y5 y6 => q2 I5 e x y w y1 y2 y3 y4 y5 (zg_trans z4 y6))⟩
          refine ⟨_, rfl, fun c2 => ?_, fun c2 => ?_⟩
          · have c3 : ¬ bt_at bs (p + 1) = 0 := fun z => c2 (by rw [z]; rfl)
            obtain ⟨k, rfl⟩ : ∃ k, len = k + 1 := ⟨len - 1, by omega⟩
            have hr : rd_ln bs (j + 1) (k + 1) p = if 1 ≤ k then rd_ln bs j k (p + 2) else .inl (-9, p) := by
              show (if p < 8 * bs.length then (if bt_at bs p = 1 then (if p + 1 < 8 * bs.length then (if bt_at bs (p + 1) = 0 then (if k + 1 + 1 ≤ 12 then rd_ln bs j (k + 1 + 1) (p + 2) else .inl (-9, p)) else (if 1 ≤ k + 1 - 1 then rd_ln bs j (k + 1 - 1) (p + 2) else .inl (-9, p))) else .inl (-2, p)) else .inr (k + 1, p + 1)) else .inl (-2, p)) = _
              rw [if_pos (by omega), if_pos b1, if_pos (by omega), if_neg c3, Nat.add_sub_cancel]
            refine r_Mod_readTable_113 l (d + 1) m _ _ _ _ _ _ _ ?_
            rw [pk_m1]
            refine ⟨fun c4 => ?_, fun c4 => ⟨fun _ => ?_, fun c5 => ?_⟩⟩
            · rw [show (1 : Int32) = nI 1 from rfl, nI_ltI (by omega) (by omega)] at c4
              rw [if_neg (by omega)] at hr
              exact r_Mod_readTable_127 l (d + 1) m _ _ _ _ _ m (far _ hr)
            · rw [show (1 : Int32) = nI 1 from rfl, nI_ltI (by omega) (by omega)] at c4
              rw [if_pos (by omega)] at hr
              exact near k (by omega) (by omega) hr
            · rw [show (12 : Int32) = nI 12 from rfl, nI_leI (by omega) (by omega)] at c5
              omega
          · have c3 : bt_at bs (p + 1) = 0 := by
              rcases b_lt2 bs (p + 1) with h | h
              · exact h
              · rw [h] at c2
                exact absurd c2 (by decide)
            have hr : rd_ln bs (j + 1) len p = if len + 1 ≤ 12 then rd_ln bs j (len + 1) (p + 2) else .inl (-9, p) := by
              show (if p < 8 * bs.length then (if bt_at bs p = 1 then (if p + 1 < 8 * bs.length then (if bt_at bs (p + 1) = 0 then (if len + 1 ≤ 12 then rd_ln bs j (len + 1) (p + 2) else .inl (-9, p)) else (if 1 ≤ len - 1 then rd_ln bs j (len - 1) (p + 2) else .inl (-9, p))) else .inl (-2, p)) else .inr (len, p + 1)) else .inl (-2, p)) = _
              rw [if_pos (by omega), if_pos b1, if_pos (by omega), if_pos c3]
            refine r_Mod_readTable_113 l (d + 1) m _ _ _ _ _ _ _ ?_
            rw [nI_1]
            refine ⟨fun c4 => ?_, fun c4 => ⟨fun c5 => ?_, fun c5 => ?_⟩⟩
            · rw [show (1 : Int32) = nI 1 from rfl, nI_ltI (by omega) (by omega)] at c4
              omega
            · rw [show (12 : Int32) = nI 12 from rfl, nI_leI (by omega) (by omega)] at c5
              rw [if_pos c5] at hr
              exact near (len + 1) (by omega) c5 hr
            · rw [show (12 : Int32) = nI 12 from rfl, nI_leI (by omega) (by omega)] at c5
              rw [if_neg c5] at hr
              exact r_Mod_readTable_127 l (d + 1) m _ _ _ _ _ m (far _ hr)
        · -- short at the second bit: the length goes up by one, and the fault stays
          have hr : rd_ln bs (j + 1) len p = .inl (-2, p) := by
            show (if p < 8 * bs.length then (if bt_at bs p = 1 then (if p + 1 < 8 * bs.length then (if bt_at bs (p + 1) = 0 then (if len + 1 ≤ 12 then rd_ln bs j (len + 1) (p + 2) else .inl (-9, p)) else (if 1 ≤ len - 1 then rd_ln bs j (len - 1) (p + 2) else .inl (-9, p))) else .inl (-2, p)) else .inr (len, p + 1)) else .inl (-2, p)) = _
            rw [if_pos (by omega), if_pos b1, if_neg (by omega)]
          have n3 : ¬ I3 m 8 = 0 := by rw [f4]; decide
          have far : ∀ (x y0 : Int32), zi_X l (zx_rm (d + 2) 0 0) M_Mod_readTable K RJ Q 132 [(0, .ref m), (1, .int (nI t)), (2, .int (nI p)), (3, .int x), (4, .int (nI s)), (5, .int 1)] [.int y0, .ref m] I3 := fun x y0 => by
            refine r_Mod_readTable_132 l (d + 1) m _ _ _ _ _ _ m g.1 (zi_mono (c_fi l d g.1) ?_)
            rintro r I4 ⟨rfl, (⟨_, h, _⟩ | ⟨_, rfl⟩)⟩
            · exact absurd h n3
            · exact ⟨rfl, r_Mod_readTable_59 l (d + 1) m _ _ _ _ _ g.1 ⟨fun c => absurd c (by decide), fun _ => ⟨fun _ => q2 I4 (-2, p) x _ _ hr f4 f5 (by dsimp only; decide) ⟨p + 1, e1, f3⟩ z4, fun c => absurd c n3⟩⟩⟩
          have all : ∀ (y1 y0 : Int32), zi_X l (zx_rm (d + 2) 0 0) M_Mod_readTable K RJ Q 113 [(0, .ref m), (1, .int (nI t)), (2, .int (nI p)), (3, .int (nI len)), (4, .int (nI s)), (5, .int 1)] [.int y0, .int y1] I3 := fun y1 y0 => r_Mod_readTable_113 l (d + 1) m _ _ _ _ _ _ _ ⟨fun _ => r_Mod_readTable_127 l (d + 1) m _ _ _ _ _ m (far _ _), fun _ => ⟨fun _ => far _ _, fun _ => r_Mod_readTable_127 l (d + 1) m _ _ _ _ _ m (far _ _)⟩⟩
          exact ⟨_, rfl, fun _ => all _ _, fun _ => all _ _⟩
    · refine ⟨_, rfl, fun _ => ?_, fun c => absurd c (by decide)⟩
      refine r_Mod_readTable_91 l (d + 1) m _ _ _ _ _ _ g.1 ⟨fun _ => r_Mod_readTable_59 l (d + 1) m _ _ _ _ _ g.1 ⟨fun _ => q2 I2 (-2, p) _ _ _ ?_ e4 e5 (by dsimp only; decide) ⟨p, hp, e3⟩ z, fun c => absurd rfl c⟩, fun c => absurd rfl c⟩
      unfold rd_ln
      rw [if_neg (by omega)]
theorem t_rtm38 (l : Launch) (d : Nat) {Q : zi_Q} {t ks : Nat} (g : g_Mod K RJ m) (ht : t < 4) (hk : ks ≤ 256) :
    ∀ (j s len p : Nat) (out : List Nat) (x2 : Int32) (I : zi_I), s + j = ks + 2 → out.length = s → a_In I m bs → I m 7 = nI p → p ≤ 8 * bs.length → I m 8 = 0 → I m 22 = nI ks → 1 ≤ len → len ≤ 12 → (∀ i, i < s → I (m + 10) (260 * t + i) = nI (out.getD i 0)) → (∀ v ∈ out, 1 ≤ v ∧ v ≤ 12) →
      (∀ I2, md_post (rd_lens bs j len out p) (8 * bs.length) m I2 (fun L => L.length = ks + 2 ∧ (∀ i, i < ks + 2 → I2 (m + 10) (260 * t + i) = nI (L.getD i 0)) ∧ ∀ v ∈ L, 1 ≤ v ∧ v ≤ 12) → (∀ i, ¬ (260 * t ≤ i ∧ i < 260 * t + (ks + 2)) → I2 (m + 10) i = I (m + 10) i) → zg m [7, 8, 9] [m + 10] I I2 → Q none I2) →
      zi_X l (zx_rm (d + 2) 0 0) M_Mod_readTable K RJ Q 38 [(0, .ref m), (1, .int (nI t)), (2, .int x2), (3, .int (nI len)), (4, .int (nI s))] [] I := by
  intro j
  induction j with
  | zero =>
    intro s len p out x2 I hs hl a h7 hp h8 h22 h1 h2 ho hv q
    obtain rfl : s = ks + 2 := by omega
    refine r_Mod_readTable_38 l (d + 1) m _ _ _ _ g.1 ⟨fun _ => r_Mod_readTable_161 l (d + 1) m _ _ _ _ (q I ⟨h8, h7, hp, hl, ho, hv⟩ (fun _ _ => rfl) zg_refl), fun c => ?_⟩
    rw [h22, show (2 : Int32) = nI 2 from rfl, nI_add, nI_leI (by omega) (by omega)] at c
    omega
  | succ j ih =>
    intro s len p out x2 I hs hl a h7 hp h8 h22 h1 h2 ho hv q
    have hb := a.1
    have ej : (260 : Int32) * nI t + nI s = nI (260 * t + s) := by rw [show (260 : Int32) = nI 260 from rfl, pk_mul, nI_add]
    refine r_Mod_readTable_38 l (d + 1) m _ _ _ _ g.1 ⟨fun c => ?_, fun _ => ⟨fun c => absurd h8 c, fun _ => ?_⟩⟩
    · rw [h22, show (2 : Int32) = nI 2 from rfl, nI_add, nI_leI (by omega) (by omega)] at c
      omega
    · refine t_rtm59 (bs := bs) (n := 0) l d g 3200 len p x2 I (by omega) a h7 hp h8 h1 h2 (fun I2 w q2 y y1 y2 y3 y4 y5 => ?_) (fun I2 e x y w y1 y2 y3 y4 y5 y6 => ?_)
      · have hw := rd_ln_bd 3200 len p h1 h2 y1
        refine r_Mod_readTable_141 l (d + 1) m _ _ _ _ _ g.1 g.lengthsR (by omega) g.lengthsK ⟨260 * t + s, ej, by omega, ?_⟩
        rw [nI_1]
        have z : zg m [7, 8, 9] [m + 10] I (zx_u2 I2 (m + 10) (260 * t + s) (nI w)) := zg_trans (zg_mono y5 (by simp) (by simp)) (zg_arr (by simp) (by omega))
        refine ih (s + 1) w q2 (out ++ [w]) _ _ (by omega) (by rw [List.length_append, List.length_singleton, hl]) (a.keepg z (by simp) (by simp)) (by rw [zx_u2_ne (by omega)]; exact y3) y4 (by rw [zx_u2_ne (by omega)]; exact y2) (by rw [z.1 22 (by simp)]; exact h22) hw.1 hw.2 (fun i hi => ?_) (fun x hx => ?_) (fun I3 w1 w2 w3 => q I3 ?_ (fun i hi => ?_) (zg_trans z w3))
        · simp only [List.getD_eq_getElem?_getD]
          by_cases e2 : i = s
          · rw [e2, zx_u2_s, ← hl]
            simp
          · rw [zx_u2_k (by omega), zg_cell y5 (by omega) (by simp), ho i (by omega), List.getElem?_append_left (by omega), List.getD_eq_getElem?_getD]
        · rcases List.mem_append.mp hx with h | h
          · exact hv x h
          · rw [List.mem_singleton] at h
            rw [h]
            exact hw
        · unfold rd_lens
          rw [y1]
          exact w1
        · rw [w2 i hi, zx_u2_k (by omega), zg_cell y5 (by omega) (by simp)]
      · have n2 : ¬ I2 m 8 = 0 := by rw [y2]; exact y4
        refine r_Mod_readTable_141 l (d + 1) m _ _ _ _ _ g.1 g.lengthsR (by omega) g.lengthsK ⟨260 * t + s, ej, by omega, ?_⟩
        have z : zg m [7, 8, 9] [m + 10] I (zx_u2 I2 (m + 10) (260 * t + s) x) := zg_trans (zg_mono y6 (by simp) (by simp)) (zg_arr (by simp) (by omega))
        obtain ⟨p2, p3, p4⟩ := y5
        have fin : Q none (zx_u2 I2 (m + 10) (260 * t + s) x) := q _ (by
          unfold rd_lens
          rw [y1]
          exact ⟨by rw [zx_u2_ne (by omega)]; exact y2, by rw [zx_u2_ne (by omega)]; exact y3, y4, p2, p3, by rw [zx_u2_ne (by omega)]; exact p4⟩) (fun i hi => by rw [zx_u2_k (by omega), zg_cell y6 (by omega) (by simp)]) z
        exact r_Mod_readTable_38 l (d + 1) m _ _ _ _ g.1 ⟨fun _ => r_Mod_readTable_161 l (d + 1) m _ _ _ _ fin, fun _ => ⟨fun _ => r_Mod_readTable_161 l (d + 1) m _ _ _ _ fin, fun c => absurd c (by rw [zx_u2_ne (by omega)]; exact n2)⟩⟩
theorem c_readTable (l : Launch) (d : Nat) {I : zi_I} {t ks : Nat} (g : g_Mod K RJ m) (ht : t < 4) (hk : ks ≤ 256) (a : a_In I m bs) (h7 : I m 7 = nI p) (hp : p ≤ 8 * bs.length) (h8 : I m 8 = 0) (h22 : I m 22 = nI ks) :
    zi_C l (zx_rm (d + 2) 0 0) M_Mod_readTable [.ref m, .int (nI t)] K RJ I (fun r I2 => r = none ∧ md_post (rd_tab bs (ks + 2) p) (8 * bs.length) m I2 (fun L => L.length = ks + 2 ∧ (∀ i, i < ks + 2 → I2 (m + 10) (260 * t + i) = nI (L.getD i 0)) ∧ ∀ v ∈ L, 1 ≤ v ∧ v ≤ 12) ∧ (∀ i, ¬ (260 * t ≤ i ∧ i < 260 * t + (ks + 2)) → I2 (m + 10) i = I (m + 10) i) ∧ zg m [7, 8, 9] [m + 10] I I2) := by
  have hb5 := bn_lt bs p (k := 5) (by decide)
  refine zi_of (by decide) (fun α => Nat.le_of_ble_eq_true rfl) (r_Mod_readTable_0 l (d + 1) m _ g.1 ?_)
  rw [h7]
  refine zi_mono (c_mt (k := 5) l d g a h7 hp h8 (by decide)) ?_
  rintro r I2 ⟨⟨v, rfl, hv⟩, z⟩
  have z1 : zg m [7, 8, 9] [m + 10] I I2 := zg_mono z (by simp) (by simp)
  have hv24 : v < 2 ^ 24 := by
    rcases hv with ⟨_, rfl, _⟩ | ⟨_, rfl, _⟩
    · exact hb5
    · decide
  -- a fault: the loop ends at once
  have stop : ∀ (I3 : zi_I) (x : Int32), ¬ I3 m 8 = 0 → ((none : Option Value) = none ∧ md_post (rd_tab bs (ks + 2) p) (8 * bs.length) m I3 (fun L => L.length = ks + 2 ∧ (∀ i, i < ks + 2 → I3 (m + 10) (260 * t + i) = nI (L.getD i 0)) ∧ ∀ v ∈ L, 1 ≤ v ∧ v ≤ 12) ∧ (∀ i, ¬ (260 * t ≤ i ∧ i < 260 * t + (ks + 2)) → I3 (m + 10) i = I (m + 10) i) ∧ zg m [7, 8, 9] [m + 10] I I3) → zi_X l (zx_rm (d + 2) 0 0) M_Mod_readTable K RJ (fun r I2 => r = none ∧ md_post (rd_tab bs (ks + 2) p) (8 * bs.length) m I2 (fun L => L.length = ks + 2 ∧ (∀ i, i < ks + 2 → I2 (m + 10) (260 * t + i) = nI (L.getD i 0)) ∧ ∀ v ∈ L, 1 ≤ v ∧ v ≤ 12) ∧ (∀ i, ¬ (260 * t ≤ i ∧ i < 260 * t + (ks + 2)) → I2 (m + 10) i = I (m + 10) i) ∧ zg m [7, 8, 9] [m + 10] I I2) 38 [(0, .ref m), (1, .int (nI t)), (2, .int (nI p)), (3, .int x), (4, .int 0)] [] I3 := fun I3 x n3 hq => r_Mod_readTable_38 l (d + 1) m _ _ _ _ g.1 ⟨fun _ => r_Mod_readTable_161 l (d + 1) m _ _ _ _ hq, fun _ => ⟨fun _ => r_Mod_readTable_161 l (d + 1) m _ _ _ _ hq, fun c => absurd c n3⟩⟩
  rcases hv with ⟨e1, rfl, e3, e4⟩ | ⟨e1, rfl, e3, e4, e5⟩
  · have far : ¬ (1 ≤ bt_num bs p 5 ∧ bt_num bs p 5 ≤ 12) → zi_X l (zx_rm (d + 2) 0 0) M_Mod_readTable K RJ (fun r I2 => r = none ∧ md_post (rd_tab bs (ks + 2) p) (8 * bs.length) m I2 (fun L => L.length = ks + 2 ∧ (∀ i, i < ks + 2 → I2 (m + 10) (260 * t + i) = nI (L.getD i 0)) ∧ ∀ v ∈ L, 1 ≤ v ∧ v ≤ 12) ∧ (∀ i, ¬ (260 * t ≤ i ∧ i < 260 * t + (ks + 2)) → I2 (m + 10) i = I (m + 10) i) ∧ zg m [7, 8, 9] [m + 10] I I2) 24 [(0, .ref m), (1, .int (nI t)), (2, .int (nI p)), (3, .int (nI (bt_num bs p 5)))] [.ref m] I2 := fun h => by
      refine r_Mod_readTable_24 l (d + 1) m _ _ _ m (r_Mod_readTable_29 l (d + 1) m _ _ _ _ m g.1 (zi_mono (c_fi l d g.1) ?_))
      rintro r I3 ⟨rfl, (⟨_, _, k1, k2, k3, k4⟩ | ⟨h, _⟩)⟩
      · refine ⟨rfl, stop I3 _ (by rw [k1]; decide) ⟨rfl, ?_, fun i _ => ?_, zg_trans z1 (zg_mono k4 (by simp) (by simp))⟩⟩
        · unfold rd_tab md_post
          rw [if_pos e1, if_neg h]
          exact ⟨k1, k2, by dsimp only; decide, p + 5, e1, by rw [k3]; exact e3⟩
        · rw [zg_cell k4 (by omega) (by simp), zg_cell z (by omega) (by simp)]
      · exact absurd ⟨by decide, e4⟩ h
    refine ⟨_, rfl, fun c => ?_, fun c => ⟨fun c2 => ?_, fun c2 => ?_⟩⟩
    · rw [show (1 : Int32) = nI 1 from rfl, nI_ltI (by omega) (by omega)] at c
      exact far (by omega)
    · rw [show (1 : Int32) = nI 1 from rfl, nI_ltI (by omega) (by omega)] at c
      rw [show (12 : Int32) = nI 12 from rfl, nI_leI (by omega) (by omega)] at c2
      refine r_Mod_readTable_29 l (d + 1) m _ _ _ _ m g.1 (zi_mono (c_fi l d g.1) ?_)
      rintro r I3 ⟨rfl, (⟨h, _⟩ | ⟨_, rfl⟩)⟩
      · exact absurd rfl h
      · refine ⟨rfl, t_rtm38 (bs := bs) (t := t) (ks := ks) l d g ht hk (ks + 2) 0 (bt_num bs p 5) (p + 5) [] _ I3 (by omega) rfl (a.keepg z1 (by simp) (by simp)) e3 e1 e4 (by rw [z1.1 22 (by simp)]; exact h22) (by omega) c2 (fun _ h => absurd h (by omega)) (fun v hv => absurd hv List.not_mem_nil) (fun I4 w1 w2 w3 => ⟨rfl, ?_, fun i hi => ?_, zg_trans z1 w3⟩)⟩
        · unfold rd_tab
          rw [if_pos e1, if_pos (by omega)]
          exact w1
        · rw [w2 i hi, zg_cell z (by omega) (by simp)]
    · rw [show (12 : Int32) = nI 12 from rfl, nI_leI (by omega) (by omega)] at c2
      exact far (by omega)
  · refine ⟨_, rfl, fun _ => ?_, fun c => absurd (by decide) c⟩
    refine r_Mod_readTable_24 l (d + 1) m _ _ _ m (r_Mod_readTable_29 l (d + 1) m _ _ _ _ m g.1 (zi_mono (c_fi l d g.1) ?_))
    rintro r I3 ⟨rfl, (⟨_, h, _⟩ | ⟨_, rfl⟩)⟩
    · rw [e4] at h
      exact absurd h (by decide)
    · refine ⟨rfl, stop I3 _ (by rw [e4]; decide) ⟨rfl, ?_, fun i _ => zg_cell z (by omega) (by simp) i, z1⟩⟩
      unfold rd_tab md_post
      rw [if_neg e1]
      exact ⟨e4, e5, by dsimp only; decide, p, hp, e3⟩
end MTB
