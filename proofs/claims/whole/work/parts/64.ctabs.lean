/-! The class reads picks and tables. -/
/-- a number that is read, or the fault -/
def rd_pv (rd : rd_R Nat) (n8 br : Nat) (r : Option Value) (I2 : zi_I) : Prop :=
  match rd with
  | .inl e => r = some (.int e.1) ∧ I2 br 2 = nI e.2 ∧ e.1 < 0 ∧ ∃ p2, p2 < 2 ^ 20 ∧ I2 br 1 = nI p2
  | .inr v => r = some (.int (nI v.1)) ∧ I2 br 1 = nI v.2 ∧ v.2 ≤ n8
theorem rd_one_lt {bs : List Nat} {bg v q : Nat} : ∀ j k p, rd_one bs bg j k p = .inr (v, q) → v < k + j
  | 0, _, _, h => by
    unfold rd_one at h
    exact absurd h (by simp)
  | j + 1, k, p, h => by
    unfold rd_one at h
    split at h
    · split at h
      · have := rd_one_lt j (k + 1) (p + 1) h
        omega
      · simp only [Sum.inr.injEq, Prod.mk.injEq] at h
        omega
    · exact absurd h (by simp)
theorem rd_ln_bd {bs : List Nat} {v q : Nat} : ∀ j len p, 1 ≤ len → len ≤ 12 → rd_ln bs j len p = .inr (v, q) → 1 ≤ v ∧ v ≤ 12
  | 0, _, _, _, _, h => by
    unfold rd_ln at h
    exact absurd h (by simp)
  | j + 1, len, p, h1, h2, h => by
    unfold rd_ln at h
    split at h
    · split at h
      · split at h
        · split at h
          · split at h
            · exact rd_ln_bd j (len + 1) (p + 2) (by omega) (by omega) h
            · exact absurd h (by simp)
          · split at h
            · exact rd_ln_bd j (len - 1) (p + 2) (by omega) (by omega) h
            · exact absurd h (by simp)
        · exact absurd h (by simp)
      · simp only [Sum.inr.injEq, Prod.mk.injEq] at h
        omega
    · exact absurd h (by simp)
section CT
variable {K : zx_Kt} {RJ : zx_RJ} {o br ro N b : Nat} {bs : List Nat}
theorem b_lt2 (bs : List Nat) (p : Nat) : bt_at bs p = 0 ∨ bt_at bs p = 1 := by
  have := bt_lt bs p
  omega
theorem t_rp9 (l : Launch) (d : Nat) {Q : zi_Q} {T bg : Nat} (g : g_BR K RJ o br ro N) (hd : ro + 1 < br) (hT : T ≤ 4) :
    ∀ (j k p : Nat) (I : zi_I), k + j = T → a_Row I ro N bs → I br 1 = nI p → p ≤ 8 * bs.length → I br 2 = nI bg →
      (∀ r I2, rd_pv (rd_one bs bg j k p) (8 * bs.length) br r I2 → zg br [1, 2] [] I I2 → Q r I2) →
      zi_X l (zx_rm (d + 1) 0 0) M_BlockReader_readPick K RJ Q 9 [(0, .ref o), (1, .int (nI T)), (2, .int (nI k))] [] I := by
  intro j
  induction j with
  | zero =>
    intro k p I hk a hp hp2 hbg q
    obtain rfl : k = T := by omega
    have h8 := bits_ok g.b a
    refine r_BlockReader_readPick_9 l d o _ _ g.k g.bR g.b0 g.b.1 ⟨fun _ => q _ I ?_ zg_refl, fun c => absurd (nI_le (Nat.le_refl _) (by omega)) c⟩
    exact ⟨rfl, hbg, by dsimp only; decide, p, by omega, hp⟩
  | succ j ih =>
    intro k p I hk a hp hp2 hbg q
    have h8 := bits_ok g.b a
    refine r_BlockReader_readPick_9 l d o _ _ g.k g.bR g.b0 g.b.1 ⟨fun c => ?_, fun _ => zi_mono (c_takeBit l d g.b a hp (by omega)) ?_⟩
    · rw [nI_leI (by omega) (by omega)] at c
      omega
    · rintro r I2 (⟨h1, rfl, rfl⟩ | ⟨h1, rfl, rfl⟩)
      · have z : zg br [1, 2] [] I (zx_u2 I br 1 (nI (p + 1))) := zg_fld (by simp)
        refine ⟨_, rfl, fun c => ?_, fun c => ⟨fun _ => ?_, fun c2 => ?_⟩⟩
        · have e : bt_at bs p = 1 := by
            rcases b_lt2 bs p with e | e
            · rw [e] at c
              exact absurd c (by decide)
            · exact e
          rw [nI_1]
          refine ih (k + 1) (p + 1) _ (by omega) (a.keep z.2 (by simp; omega) (by simp; omega)) zx_u2_s (by omega) (by rw [zx_u2_k (by omega)]; exact hbg) (fun r I3 y1 y2 => q r I3 ?_ (zg_trans z y2))
          unfold rd_one
          rw [if_pos h1, if_pos e]
          exact y1
        · have e : bt_at bs p = 0 := by
            rcases b_lt2 bs p with e | e
            · exact e
            · rw [e] at c
              exact absurd (by decide) c
          refine q _ _ ?_ z
          unfold rd_one
          rw [if_pos h1, if_neg (by omega)]
          exact ⟨rfl, zx_u2_s, by show p + 1 ≤ 8 * bs.length; omega⟩
        · exact absurd (nI_pos' (Nat.lt_of_lt_of_le (bt_lt bs p) (by decide))) c2
      · refine ⟨_, rfl, fun c => absurd c (by decide), fun _ => ⟨fun c => absurd c m2_neg, fun _ => ?_⟩⟩
        refine q _ I2 ?_ zg_refl
        unfold rd_one
        rw [if_neg (by omega)]
        exact ⟨rfl, hbg, by dsimp only; decide, p, by omega, hp⟩
theorem c_readPick (l : Launch) (d : Nat) {I : zi_I} {T p : Nat} (g : g_BR K RJ o br ro N) (hd : ro + 1 < br) (hT : T ≤ 4) (a : a_Row I ro N bs) (hp : I br 1 = nI p) (hp2 : p ≤ 8 * bs.length) :
    zi_C l (zx_rm (d + 1) 0 0) M_BlockReader_readPick [.ref o, .int (nI T)] K RJ I (fun r I2 => rd_pv (rd_one bs p T 0 p) (8 * bs.length) br r I2 ∧ zg br [1, 2] [] I I2) := by
  refine zi_of (by decide) (fun α => Nat.le_of_ble_eq_true rfl) (r_BlockReader_readPick_0 l d o _ g.k g.bR g.b0 g.b.1 (zi_mono (c_beginNumber l d g.b.1) ?_))
  rintro r I2 ⟨rfl, rfl⟩
  have z : zg br [1, 2] [] I (zx_u2 I br 2 (I br 1)) := zg_fld (by simp)
  exact ⟨rfl, t_rp9 (bs := bs) (T := T) (bg := p) l d g hd hT T 0 p _ (by omega) (a.keep z.2 (by simp; omega) (by simp; omega)) (by rw [zx_u2_k (by omega)]; exact hp) hp2 (by rw [zx_u2_s]; exact hp) (fun r I3 y1 y2 => ⟨y1, zg_trans z y2⟩)⟩
theorem t_rps13 (l : Launch) (d : Nat) {Q : zi_Q} {T G : Nat} (g : g_BR K RJ o br ro N) (gb : g_Block K RJ b) (hd : ro + 1 < br) (hbo : br < o) (hob : o + 29 < b) (hT0 : 0 < T) (hT : T ≤ 4) (hG : G ≤ 63) :
    ∀ (j i p : Nat) (xs out : List Nat) (I : zi_I), i + j = G → out.length = i → a_Row I ro N bs → I br 1 = nI p → p ≤ 8 * bs.length → I b 9 = nI T → I b 11 = nI G → a_Row I (o + 1) 256 xs → xs.length = T → (∀ k, k < i → I (b + 10) k = nI (out.getD k 0)) →
      (∀ r I2, rd_post (rd_picks bs T j xs out p) (8 * bs.length) br r I2 (fun L => L.length = G ∧ ∀ k, k < G → I2 (b + 10) k = nI (L.getD k 0)) → zf [o + 2, br, b + 10] I I2 → Q r I2) →
      zi_X l (zx_rm (d + 2) 0 0) M_BlockReader_readPicks K RJ Q 13 [(0, .ref o), (1, .ref b), (2, .int (nI i))] [] I := by
  intro j
  induction j with
  | zero =>
    intro i p xs out I hi hl a hp hp2 h9 h11 ax hx ho q
    obtain rfl : i = G := by omega
    refine r_BlockReader_readPicks_13 l (d + 1) o b _ gb.k g.k gb.pi.1 (by omega) g.lR (by omega) g.l.1 gb.pi.2 ⟨fun _ => q _ I ⟨rfl, hp, hp2, hl, ho⟩ zf_refl, fun c => ?_⟩
    rw [h11, nI_leI (by omega) (by omega)] at c
    omega
  | succ j ih =>
    intro i p xs out I hi hl a hp hp2 h9 h11 ax hx ho q
    refine r_BlockReader_readPicks_13 l (d + 1) o b _ gb.k g.k gb.pi.1 (by omega) g.lR (by omega) g.l.1 gb.pi.2 ⟨fun c => ?_, fun _ => ?_⟩
    · rw [h11, nI_leI (by omega) (by omega)] at c
      omega
    · rw [h9]
      refine zi_mono (c_readPick (T := T) l d g hd hT a hp hp2) ?_
      rintro r I2 ⟨hr, z⟩
      have z1 : zf [o + 2, br, b + 10] I I2 := zf_mono z.2 (by simp)
      have hq := q
      unfold rd_picks at hq
      cases e : rd_one bs p T 0 p with
      | inl f =>
        rw [e] at hr hq
        obtain ⟨rfl, h2, h3, h4⟩ := hr
        exact ⟨_, rfl, fun c => absurd h3 (by rw [Int32.not_lt]; exact c), fun _ => hq _ I2 ⟨rfl, h2, h3, h4⟩ z1⟩
      | inr v =>
        obtain ⟨k, p'⟩ := v
        rw [e] at hr hq
        obtain ⟨rfl, h2, h3⟩ := hr
        have hk := rd_one_lt T 0 p e
        refine ⟨_, rfl, fun _ => ?_, fun c => absurd (nI_pos' (by omega)) c⟩
        refine zi_mono (c_movePlace l d g.l (ax.keep z.2 (by simp; omega) (by simp; omega)) (show k < xs.length by omega)) ?_
        rintro r I3 ⟨rfl, v1, v2⟩
        refine ⟨_, rfl, i, rfl, by omega, ?_⟩
        rw [nI_1]
        have z3 : zf [o + 2, br, b + 10] I (zx_u2 I3 (b + 10) i (nI (xs.getD k 0))) := zf_trans (zf_trans z1 (zf_mono v2 (by simp))) (zf_u2 (by simp))
        have z4 : zf [o + 2, b + 10] I2 (zx_u2 I3 (b + 10) i (nI (xs.getD k 0))) := zf_trans (zf_mono v2 (by simp)) (zf_u2 (by simp))
        refine ih (i + 1) p' (mv_to xs k) (out ++ [xs.getD k 0]) _ (by omega) (by rw [List.length_append, List.length_singleton, hl]) (a.keep z3 (by simp; omega) (by simp; omega)) (by rw [zf_at z4 (by simp; omega)]; exact h2) h3 (by rw [zf_at z3 (by simp; omega)]; exact h9) (by rw [zf_at z3 (by simp; omega)]; exact h11) (v1.keep (zf_u2 (S := [b + 10]) (by simp)) (by simp; omega) (by simp; omega)) (by rw [mv_len (by omega)]; exact hx) (fun k' hk' => ?_) (fun r I4 y1 y2 => hq r I4 y1 (zf_trans z3 y2))
        simp only [List.getD_eq_getElem?_getD]
        by_cases e2 : k' = i
        · rw [e2, zx_u2_s, ← hl]
          simp
        · rw [zx_u2_k e2, zf_at v2 (by simp; omega), zf_at z.2 (by simp; omega), ho k' (by omega), List.getElem?_append_left (by omega), List.getD_eq_getElem?_getD]
theorem c_readPicks (l : Launch) (d : Nat) {I : zi_I} {T G p : Nat} (g : g_BR K RJ o br ro N) (gb : g_Block K RJ b) (hd : ro + 1 < br) (hbo : br < o) (hob : o + 29 < b) (hT0 : 0 < T) (hT : T ≤ 4) (hG : G ≤ 63) (a : a_Row I ro N bs) (hp : I br 1 = nI p) (hp2 : p ≤ 8 * bs.length) (h9 : I b 9 = nI T) (h11 : I b 11 = nI G) :
    zi_C l (zx_rm (d + 2) 0 0) M_BlockReader_readPicks [.ref o, .ref b] K RJ I (fun r I2 => rd_post (rd_picks bs T G (List.range T) [] p) (8 * bs.length) br r I2 (fun L => L.length = G ∧ ∀ k, k < G → I2 (b + 10) k = nI (L.getD k 0)) ∧ zf [o + 1, o + 2, br, b + 10] I I2) := by
  refine zi_of (by decide) (fun α => Nat.le_of_ble_eq_true rfl) (r_BlockReader_readPicks_0 l (d + 1) o b g.k g.lR (by omega) gb.k g.l.1 ?_)
  rw [h9]
  refine zi_mono (c_setToNumbers (m := T) l d g.l (by omega)) ?_
  rintro r I2 ⟨rfl, v1, v2⟩
  have e2 : o + 1 + 1 = o + 2 := rfl
  rw [e2] at v2
  have z : zf [o + 1, o + 2, br, b + 10] I I2 := zf_mono v2 (fun x hx => by simp only [List.mem_cons, List.not_mem_nil, or_false] at hx ⊢; omega)
  exact ⟨rfl, t_rps13 (bs := bs) (T := T) (G := G) l d g gb hd hbo hob hT0 hT hG G 0 p (List.range T) [] I2 (by omega) rfl (a.keep z (by simp; omega) (by simp; omega)) (by rw [zf_at v2 (by simp; omega)]; exact hp) hp2 (by rw [zf_at z (by simp; omega)]; exact h9) (by rw [zf_at z (by simp; omega)]; exact h11) v1 (by simp) (fun _ h => absurd h (by omega)) (fun r I3 y1 y2 => ⟨y1, zf_trans z (zf_mono y2 (by simp))⟩)⟩
theorem t_rl4 (l : Launch) (d : Nat) {Q : zi_Q} {x1 : Int32} (g : g_BR K RJ o br ro N) (hd : ro + 1 < br) :
    ∀ (j k len p : Nat) (I : zi_I), k + j = 3200 → 2 * k ≤ p → a_Row I ro N bs → I br 1 = nI p → p ≤ 8 * bs.length → 1 ≤ len → len ≤ 12 →
      (∀ r I2, rd_pv (rd_ln bs j len p) (8 * bs.length) br r I2 → zg br [1, 2] [] I I2 → Q r I2) →
      zi_X l (zx_rm (d + 1) 0 0) M_BlockReader_readLength K RJ Q 4 [(0, .ref o), (1, .int x1), (2, .int (nI len)), (3, .int (nI k))] [] I := by
  intro j
  induction j with
  | zero =>
    intro k len p I hk hkp a hp hp2 h1 h2 q
    have h8 := bits_ok g.b a
    omega
  | succ j ih =>
    intro k len p I hk hkp a hp hp2 h1 h2 q
    have h8 := bits_ok g.b a
    have z0 : zg br [1, 2] [] I (zx_u2 I br 2 (I br 1)) := zg_fld (by simp)
    refine r_BlockReader_readLength_4 l d o _ _ _ g.k g.bR g.b0 g.b.1 ⟨fun c => ?_, fun _ => zi_mono (c_beginNumber l d g.b.1) ?_⟩
    · rw [show (3200 : Int32) = nI 3200 from rfl, nI_leI (by omega) (by omega)] at c
      omega
    · rintro r I1 ⟨rfl, rfl⟩
      have a1 := a.keep z0.2 (by simp; omega) (by simp; omega)
      have hp1 : zx_u2 I br 2 (I br 1) br 1 = nI p := by rw [zx_u2_k (by omega)]; exact hp
      have hb1 : zx_u2 I br 2 (I br 1) br 2 = nI p := by rw [zx_u2_s]; exact hp
      refine ⟨rfl, zi_mono (c_takeBit l d g.b a1 hp1 (by omega)) ?_⟩
      rintro r I2 (⟨g1, rfl, rfl⟩ | ⟨g1, rfl, rfl⟩)
      · have z1 : zg br [1, 2] [] I (zx_u2 (zx_u2 I br 2 (I br 1)) br 1 (nI (p + 1))) := zg_trans z0 (zg_fld (by simp))
        refine ⟨_, rfl, fun c => ?_, fun c => ⟨fun _ => ?_, fun c2 => ?_⟩⟩
        · have e : bt_at bs p = 1 := by
            rcases b_lt2 bs p with e | e
            · rw [e] at c
              exact absurd c (by decide)
            · exact e
          have a2 := a.keep z1.2 (by simp; omega) (by simp; omega)
          have hb2 : zx_u2 (zx_u2 I br 2 (I br 1)) br 1 (nI (p + 1)) br 2 = nI p := by rw [zx_u2_k (by omega)]; exact hb1
          refine zi_mono (c_takeBit (p := p + 1) l d g.b a2 zx_u2_s (by omega)) ?_
          rintro r I3 (⟨g2, rfl, rfl⟩ | ⟨g2, rfl, rfl⟩)
          · have z2 : zg br [1, 2] [] I (zx_u2 (zx_u2 (zx_u2 I br 2 (I br 1)) br 1 (nI (p + 1))) br 1 (nI (p + 1 + 1))) := zg_trans z1 (zg_fld (by simp))
            have a3 := a.keep z2.2 (by simp; omega) (by simp; omega)
            have hb3 : zx_u2 (zx_u2 (zx_u2 I br 2 (I br 1)) br 1 (nI (p + 1))) br 1 (nI (p + 1 + 1)) br 2 = nI p := by rw [zx_u2_k (by omega)]; exact hb2
            refine ⟨_, rfl, fun _ => ⟨fun c2 => ?_, fun c2 => ?_⟩, fun c2 => absurd (nI_pos' (Nat.lt_of_lt_of_le (bt_lt bs _) (by decide))) c2⟩
            · have e2 : ¬ bt_at bs (p + 1) = 0 := fun z => c2 (by rw [z]; rfl)
              obtain ⟨m, rfl⟩ : ∃ m, len = m + 1 := ⟨len - 1, by omega⟩
              rw [pk_m1]
              refine zi_mono (c_isLength l d) ?_
              rintro r I4 ⟨rfl, rfl⟩
              refine ⟨_, rfl, fun c3 => ?_, fun c3 => ?_⟩
              · rw [v_isLength (by omega), Classical.not_not] at c3
                rw [nI_1]
                refine ih (k + 1) m (p + 2) _ (by omega) (by omega) a3 zx_u2_s (by omega) c3.1 c3.2 (fun r I5 y1 y2 => q r I5 ?_ (zg_trans z2 y2))
                unfold rd_ln
                rw [if_pos g1, if_pos e, if_pos g2, if_neg e2, Nat.add_sub_cancel, if_pos c3.1]
                exact y1
              · rw [v_isLength (by omega)] at c3
                refine q _ _ ?_ z2
                unfold rd_ln
                rw [if_pos g1, if_pos e, if_pos g2, if_neg e2, Nat.add_sub_cancel, if_neg (by omega)]
                exact ⟨rfl, hb3, by dsimp only; decide, p + 2, by omega, zx_u2_s⟩
            · have e2 : bt_at bs (p + 1) = 0 := by
                rcases b_lt2 bs (p + 1) with e2 | e2
                · exact e2
                · rw [e2] at c2
                  exact absurd c2 (by decide)
              rw [nI_1]
              refine zi_mono (c_isLength l d) ?_
              rintro r I4 ⟨rfl, rfl⟩
              refine ⟨_, rfl, fun c3 => ?_, fun c3 => ?_⟩
              · rw [v_isLength (by omega), Classical.not_not] at c3
                rw [nI_1]
                refine ih (k + 1) (len + 1) (p + 2) _ (by omega) (by omega) a3 zx_u2_s (by omega) c3.1 c3.2 (fun r I5 y1 y2 => q r I5 ?_ (zg_trans z2 y2))
                unfold rd_ln
                rw [if_pos g1, if_pos e, if_pos g2, if_pos e2, if_pos c3.2]
                exact y1
              · rw [v_isLength (by omega)] at c3
                refine q _ _ ?_ z2
                unfold rd_ln
                rw [if_pos g1, if_pos e, if_pos g2, if_pos e2, if_neg (by omega)]
                exact ⟨rfl, hb3, by dsimp only; decide, p + 2, by omega, zx_u2_s⟩
          · refine ⟨_, rfl, fun c2 => absurd c2 m2_neg, fun _ => q _ _ ?_ z1⟩
            unfold rd_ln
            rw [if_pos g1, if_pos e, if_neg (by omega)]
            exact ⟨rfl, hb2, by dsimp only; decide, p + 1, by omega, zx_u2_s⟩
        · have e : bt_at bs p = 0 := by
            rcases b_lt2 bs p with e | e
            · exact e
            · rw [e] at c
              exact absurd (by decide) c
          refine q _ _ ?_ z1
          unfold rd_ln
          rw [if_pos g1, if_neg (by omega)]
          exact ⟨rfl, zx_u2_s, by show p + 1 ≤ 8 * bs.length; omega⟩
        · exact absurd (nI_pos' (Nat.lt_of_lt_of_le (bt_lt bs p) (by decide))) c2
      · refine ⟨_, rfl, fun c => absurd c (by decide), fun _ => ⟨fun c => absurd c m2_neg, fun _ => q _ _ ?_ z0⟩⟩
        unfold rd_ln
        rw [if_neg (by omega)]
        exact ⟨rfl, hb1, by dsimp only; decide, p, by omega, hp1⟩
theorem c_readLength (l : Launch) (d : Nat) {I : zi_I} {len p : Nat} (g : g_BR K RJ o br ro N) (hd : ro + 1 < br) (a : a_Row I ro N bs) (hp : I br 1 = nI p) (hp2 : p ≤ 8 * bs.length) (h1 : 1 ≤ len) (h2 : len ≤ 12) :
    zi_C l (zx_rm (d + 1) 0 0) M_BlockReader_readLength [.ref o, .int (nI len)] K RJ I (fun r I2 => rd_pv (rd_ln bs 3200 len p) (8 * bs.length) br r I2 ∧ zg br [1, 2] [] I I2) :=
  zi_of (by decide) (fun α => Nat.le_of_ble_eq_true rfl) (r_BlockReader_readLength_0 l d o _ (t_rl4 (bs := bs) l d g hd 3200 0 len p I (by omega) (by omega) a hp hp2 h1 h2 (fun r I2 y1 y2 => ⟨y1, y2⟩)))
theorem t_rls26 (l : Launch) (d : Nat) {Q : zi_Q} {n c : Nat} (g : g_BR K RJ o br ro N) (hd : ro + 1 < br) (hbc : br < c) (kc : K.2 c = (0, 258)) (hn : n ≤ 258) :
    ∀ (j s len p : Nat) (out : List Nat) (I : zi_I), s + j = n → out.length = s → a_Row I ro N bs → I br 1 = nI p → p ≤ 8 * bs.length → 1 ≤ len → len ≤ 12 → (∀ i, i < s → I c i = nI (out.getD i 0)) → (∀ v ∈ out, 1 ≤ v ∧ v ≤ 12) →
      (∀ r I2, rd_post (rd_lens bs j len out p) (8 * bs.length) br r I2 (fun L => L.length = n ∧ (∀ i, i < n → I2 c i = nI (L.getD i 0)) ∧ ∀ v ∈ L, 1 ≤ v ∧ v ≤ 12) → zf [br, c] I I2 → Q r I2) →
      zi_X l (zx_rm (d + 2) 0 0) M_BlockReader_readLengths K RJ Q 26 [(0, .ref o), (1, .ref c), (2, .int (nI n)), (3, .int (nI len)), (4, .int (nI s))] [] I := by
  intro j
  induction j with
  | zero =>
    intro s len p out I hs hl a hp hp2 h1 h2 ho hv q
    obtain rfl : s = n := by omega
    refine r_BlockReader_readLengths_26 l (d + 1) o c _ _ _ g.k kc ⟨fun _ => ⟨fun _ => q _ I ⟨rfl, hp, hp2, hl, ho, hv⟩ zf_refl, fun c => absurd (nI_pos' (by omega)) c⟩, fun c => absurd (nI_le (Nat.le_refl _) (by omega)) c⟩
  | succ j ih =>
    intro s len p out I hs hl a hp hp2 h1 h2 ho hv q
    refine r_BlockReader_readLengths_26 l (d + 1) o c _ _ _ g.k kc ⟨fun c => ?_, fun _ => ⟨fun c => ?_, fun _ => zi_mono (c_readLength (len := len) l d g hd a hp hp2 h1 h2) ?_⟩⟩
    · rw [nI_leI (by omega) (by omega)] at c
      omega
    · rw [show (0 : Int32) = nI 0 from rfl, nI_leI (by omega) (by omega)] at c
      omega
    · rintro r I2 ⟨hr, z⟩
      have hq := q
      unfold rd_lens at hq
      cases e : rd_ln bs 3200 len p with
      | inl f =>
        rw [e] at hr hq
        obtain ⟨rfl, g2, g3, p2, g4, g5⟩ := hr
        refine ⟨_, rfl, s, rfl, by omega, ?_⟩
        have z1 : zf [br, c] I (zx_u2 I2 c s f.1) := zf_trans (zf_mono z.2 (by simp)) (zf_u2 (by simp))
        have fin : Q (some (.int f.1)) (zx_u2 I2 c s f.1) := hq _ _ ⟨rfl, by rw [zx_u2_ne (by omega)]; exact g2, g3, p2, g4, by rw [zx_u2_ne (by omega)]; exact g5⟩ z1
        have neg : ¬ (0 : Int32) ≤ f.1 := by rw [Int32.not_le]; exact g3
        exact r_BlockReader_readLengths_26 l (d + 1) o c _ _ _ g.k kc ⟨fun _ => ⟨fun x => absurd x neg, fun _ => fin⟩, fun _ => ⟨fun _ => ⟨fun x => absurd x neg, fun _ => fin⟩, fun x => absurd (Int32.le_of_lt g3) x⟩⟩
      | inr v =>
        obtain ⟨w, p'⟩ := v
        rw [e] at hr hq
        obtain ⟨rfl, g2, g3⟩ := hr
        have hw := rd_ln_bd 3200 len p h1 h2 e
        refine ⟨_, rfl, s, rfl, by omega, ?_⟩
        rw [nI_1]
        have z1 : zf [br, c] I (zx_u2 I2 c s (nI w)) := zf_trans (zf_mono z.2 (by simp)) (zf_u2 (by simp))
        refine ih (s + 1) w p' (out ++ [w]) _ (by omega) (by rw [List.length_append, List.length_singleton, hl]) (a.keep z1 (by simp; omega) (by simp; omega)) (by rw [zx_u2_ne (by omega)]; exact g2) g3 hw.1 hw.2 (fun i hi => ?_) (fun x hx => ?_) (fun r I4 y1 y2 => hq r I4 y1 (zf_trans z1 y2))
        · simp only [List.getD_eq_getElem?_getD]
          by_cases e2 : i = s
          · rw [e2, zx_u2_s, ← hl]
            simp
          · rw [zx_u2_k e2, zf_at z.2 (by simp; omega), ho i (by omega), List.getElem?_append_left (by omega), List.getD_eq_getElem?_getD]
        · rcases List.mem_append.mp hx with h | h
          · exact hv x h
          · rw [List.mem_singleton] at h
            rw [h]
            exact hw
theorem c_readLengths (l : Launch) (d : Nat) {I : zi_I} {n c p : Nat} (g : g_BR K RJ o br ro N) (hd : ro + 1 < br) (hbc : br < c) (kc : K.2 c = (0, 258)) (hn : n ≤ 258) (a : a_Row I ro N bs) (hp : I br 1 = nI p) (hp2 : p ≤ 8 * bs.length) :
    zi_C l (zx_rm (d + 2) 0 0) M_BlockReader_readLengths [.ref o, .ref c, .int (nI n)] K RJ I (fun r I2 => rd_post (rd_tab bs n p) (8 * bs.length) br r I2 (fun L => L.length = n ∧ (∀ i, i < n → I2 c i = nI (L.getD i 0)) ∧ ∀ v ∈ L, 1 ≤ v ∧ v ≤ 12) ∧ zf [br, c] I I2) := by
  have h8 := bits_ok g.b a
  have hb5 := bn_lt bs p (k := 5) (by decide)
  refine zi_of (by decide) (fun α => Nat.le_of_ble_eq_true rfl) (r_BlockReader_readLengths_0 l (d + 1) o c _ g.k g.bR g.b0 g.b.1 (zi_mono (c_tn (k := 5) l d g.b a hp hp2 (by decide) (by decide)) ?_))
  rintro r I2 ⟨⟨v, rfl, hv⟩, h2, z⟩
  have z1 : zf [br, c] I I2 := zf_mono z.2 (by simp)
  refine ⟨v, rfl, fun x => ?_, fun x => ?_⟩
  · rcases hv with ⟨e1, rfl, e3⟩ | ⟨e1, rfl, p2, e2, e3⟩
    · exact absurd x (nI_pos (by omega))
    · have fin : rd_post (rd_tab bs n p) (8 * bs.length) br (some (.int (-2))) I2 (fun L => L.length = n ∧ (∀ i, i < n → I2 c i = nI (L.getD i 0)) ∧ ∀ v ∈ L, 1 ≤ v ∧ v ≤ 12) ∧ zf [br, c] I I2 := by
        refine ⟨?_, z1⟩
        unfold rd_tab rd_post
        rw [if_neg e1]
        exact ⟨rfl, h2, by dsimp only; decide, p2, e2, e3⟩
      exact r_BlockReader_readLengths_26 l (d + 1) o c _ _ _ g.k kc ⟨fun _ => ⟨fun x => absurd x m2_neg, fun _ => fin⟩, fun _ => ⟨fun _ => ⟨fun x => absurd x m2_neg, fun _ => fin⟩, fun x => absurd (by decide) x⟩⟩
  · rcases hv with ⟨e1, rfl, e3⟩ | ⟨e1, rfl, _⟩
    · refine zi_mono (c_isLength l (d + 1)) ?_
      rintro r I3 ⟨rfl, rfl⟩
      refine ⟨_, rfl, fun y => ?_, fun y => ?_⟩
      · rw [v_isLength (by omega), Classical.not_not] at y
        refine t_rls26 (bs := bs) (n := n) (c := c) l d g hd hbc kc hn n 0 _ (p + 5) [] I3 (by omega) rfl (a.keep z1 (by simp; omega) (by simp; omega)) e3 e1 y.1 y.2 (fun _ h => absurd h (by omega)) (fun v hv => absurd hv List.not_mem_nil) (fun r I4 w1 w2 => ⟨?_, zf_trans z1 w2⟩)
        unfold rd_tab
        rw [if_pos e1, if_pos y]
        exact w1
      · rw [v_isLength (by omega)] at y
        refine ⟨?_, z1⟩
        unfold rd_tab rd_post
        rw [if_pos e1, if_neg y]
        exact ⟨rfl, h2, by dsimp only; decide, p + 5, by omega, e3⟩
    · exact absurd (by decide) x
def rt_S (o br b : Nat) : List Nat := br :: (b + 6) :: (b + 7) :: (b + 8) :: (b + 9) :: List.range' o 30
theorem rt_mem {q : Nat} : q ∈ rt_S o br b ↔ q = br ∨ (b + 6 ≤ q ∧ q ≤ b + 9) ∨ (o ≤ q ∧ q < o + 30) := by
  unfold rt_S
  rw [List.mem_cons, List.mem_cons, List.mem_cons, List.mem_cons, List.mem_cons, List.mem_range'_1]
  omega
theorem rd_tb_old {out : List (List Nat)} {v : List Nat} {t : Nat} (h : t < out.length) : rd_tb (out ++ [v]) t = rd_tb out t := by
  funext s
  unfold rd_tb
  rw [List.getD_eq_getElem?_getD (l := out ++ [v]), List.getD_eq_getElem?_getD (l := out), List.getElem?_append_left h]
theorem rd_tb_new {out : List (List Nat)} {v : List Nat} {s : Nat} : rd_tb (out ++ [v]) out.length s = v.getD s 0 := by
  unfold rd_tb
  rw [List.getD_eq_getElem?_getD (l := out ++ [v]), List.getElem?_append_right (Nat.le_refl _), Nat.sub_self]
  rfl
/-- the tables that are read -/
def a_Rt (I : zi_I) (o b n t : Nat) (L : List (List Nat)) : Prop := ∀ t', t' < t → (∀ s, s < n → I (b + 6 + t') s = nI (rd_tb L t' s)) ∧ a_Codes I (o + 6 + 6 * t') n (rd_tb L t') ∧ ∀ s, s < n → 1 ≤ rd_tb L t' s ∧ rd_tb L t' s ≤ 12
theorem t_rt2 (l : Launch) (d : Nat) {Q : zi_Q} {T kc : Nat} (g : g_BR K RJ o br ro N) (gb : g_Block K RJ b) (hd : ro + 1 < br) (hbo : br < o) (hob : o + 29 < b) (hT : T ≤ 4) (hk : kc ≤ 256) :
    ∀ (j t p : Nat) (out : List (List Nat)) (I : zi_I), t + j = T → out.length = t → a_Row I ro N bs → I br 1 = nI p → p ≤ 8 * bs.length → I b 9 = nI T → I b 5 = nI kc → a_Rt I o b (kc + 2) t out →
      (∀ r I2, rd_post (rd_tabs bs (kc + 2) j out p) (8 * bs.length) br r I2 (fun L => L.length = T ∧ a_Rt I2 o b (kc + 2) T L) → zf (rt_S o br b) I I2 → Q r I2) →
      zi_X l (zx_rm (d + 3) 0 0) M_BlockReader_readTables K RJ Q 2 [(0, .ref o), (1, .ref b), (2, .int (nI t))] [] I := by
  intro j
  induction j with
  | zero =>
    intro t p out I ht hl a hp hp2 h9 h5 ho q
    obtain rfl : t = T := by omega
    refine r_BlockReader_readTables_2 l (d + 2) o b _ gb.k gb.le.1 (by omega) gb.le.2 g.k g.cR (by omega) g.cK ⟨fun _ => q _ I ⟨rfl, hp, hp2, hl, ho⟩ zf_refl, fun c => ?_⟩
    rw [h9, nI_leI (by omega) (by omega)] at c
    omega
  | succ j ih =>
    intro t p out I ht hl a hp hp2 h9 h5 ho q
    have gc := g.c t (by omega)
    have gl := gb.ls (t := t) (by omega)
    refine r_BlockReader_readTables_2 l (d + 2) o b _ gb.k gb.le.1 (by omega) gb.le.2 g.k g.cR (by omega) g.cK ⟨fun c => ?_, fun _ => ⟨t, rfl, by omega, b + 6 + t, gl.1, by omega, zi_mono (c_symbolKinds l (d + 2) gb h5) ?_⟩⟩
    · rw [h9, nI_leI (by omega) (by omega)] at c
      omega
    · rintro r I1 ⟨rfl, rfl⟩
      refine ⟨_, rfl, zi_mono (c_readLengths (n := kc + 2) (c := b + 6 + t) l d g hd (by omega) gl.2 (by omega) a hp hp2) ?_⟩
      rintro r I2 ⟨hr, z⟩
      have z1 : zf (rt_S o br b) I1 I2 := zf_mono z (fun x hx => by rw [rt_mem]; simp only [List.mem_cons, List.not_mem_nil, or_false] at hx; omega)
      have hq := q
      unfold rd_tabs at hq
      cases e : rd_tab bs (kc + 2) p with
      | inl f =>
        rw [e] at hr hq
        obtain ⟨rfl, g2, g3, g4⟩ := hr
        refine ⟨_, rfl, fun c => ?_, fun _ => hq _ I2 ⟨rfl, g2, g3, g4⟩ z1⟩
        rw [c] at g3
        exact absurd g3 (by decide)
      | inr v =>
        obtain ⟨w, p'⟩ := v
        rw [e] at hr hq
        obtain ⟨rfl, g2, g3, g4, g5, g6⟩ := hr
        refine ⟨_, rfl, fun _ => ?_, fun c => absurd rfl c⟩
        have hw : ∀ s, s < kc + 2 → 1 ≤ w.getD s 0 ∧ w.getD s 0 ≤ 12 := fun s hs => g6 _ (getD_mem (by omega))
        refine ⟨t, rfl, by omega, o + 6 + 6 * t, gc.1, by omega, t, rfl, by omega, b + 6 + t, gl.1, by omega, zi_mono (c_symbolKinds (k := kc) l (d + 2) gb (by rw [zf_at z (by simp; omega)]; exact h5)) ?_⟩
        rintro r I3 ⟨rfl, rfl⟩
        refine ⟨_, rfl, gc.2.1, zi_mono (c_setTo (n := kc + 2) (f := fun s => w.getD s 0) l d gc.2 gl.2 (by omega) (by omega) (by omega) (by decide) hw g5) ?_⟩
        rintro r I4 ⟨rfl, u1, u2⟩
        rw [nI_1]
        have z4 : zf (rt_S o br b) I1 I4 := zf_trans z1 (zf_mono u2 (fun x hx => by rw [rt_mem]; simp only [List.mem_cons, List.not_mem_nil, or_false] at hx; omega))
        have nr : ∀ q, q = ro ∨ q = ro + 1 ∨ q = b → q ∉ rt_S o br b := fun q hq h => by
          rw [rt_mem] at h
          omega
        refine ⟨rfl, ih (t + 1) p' (out ++ [w]) I4 (by omega) (by rw [List.length_append, List.length_singleton, hl]) (a.keep z4 (nr _ (Or.inl rfl)) (nr _ (Or.inr (Or.inl rfl)))) (by rw [zf_at u2 (by simp only [List.mem_cons, List.not_mem_nil, or_false, not_or]; omega)]; exact g2) g3 (by rw [zf_at z4 (nr _ (Or.inr (Or.inr rfl)))]; exact h9) (by rw [zf_at z4 (nr _ (Or.inr (Or.inr rfl)))]; exact h5) (fun t' ht' => ?_) (fun r I5 y1 y2 => hq r I5 y1 (zf_trans z4 y2))⟩
        by_cases e2 : t' = t
        · have ef : rd_tb (out ++ [w]) t' = fun s => w.getD s 0 := by
            funext s
            rw [e2, ← hl]
            exact rd_tb_new
          rw [ef, e2]
          refine ⟨fun s hs => ?_, u1, hw⟩
          rw [zf_at u2 (by simp only [List.mem_cons, List.not_mem_nil, or_false, not_or]; omega)]
          exact g5 s hs
        · rw [rd_tb_old (by omega)]
          obtain ⟨k1, k2, k3⟩ := ho t' (by omega)
          refine ⟨fun s hs => ?_, ?_, k3⟩
          · rw [zf_at u2 (by simp only [List.mem_cons, List.not_mem_nil, or_false, not_or]; omega), zf_at z (by simp only [List.mem_cons, List.not_mem_nil, or_false, not_or]; omega)]
            exact k1 s hs
          · exact (k2.keep z (fun q hq => by simp only [List.mem_cons, List.not_mem_nil, or_false] at hq; omega)).keep u2 (fun q hq => by simp only [List.mem_cons, List.not_mem_nil, or_false] at hq; omega)
theorem c_readTables (l : Launch) (d : Nat) {I : zi_I} {T kc p : Nat} (g : g_BR K RJ o br ro N) (gb : g_Block K RJ b) (hd : ro + 1 < br) (hbo : br < o) (hob : o + 29 < b) (hT : T ≤ 4) (hk : kc ≤ 256) (a : a_Row I ro N bs) (hp : I br 1 = nI p) (hp2 : p ≤ 8 * bs.length) (h9 : I b 9 = nI T) (h5 : I b 5 = nI kc) :
    zi_C l (zx_rm (d + 3) 0 0) M_BlockReader_readTables [.ref o, .ref b] K RJ I (fun r I2 => rd_post (rd_tabs bs (kc + 2) T [] p) (8 * bs.length) br r I2 (fun L => L.length = T ∧ a_Rt I2 o b (kc + 2) T L) ∧ zf (rt_S o br b) I I2) :=
  zi_of (by decide) (fun α => Nat.le_of_ble_eq_true rfl) (r_BlockReader_readTables_0 l (d + 2) o b (t_rt2 (bs := bs) (T := T) (kc := kc) l d g gb hd hbo hob hT hk T 0 p [] I (by omega) rfl a hp hp2 h9 h5 (fun _ h => absurd h (by omega)) (fun r I2 y1 y2 => ⟨y1, y2⟩)))
end CT
