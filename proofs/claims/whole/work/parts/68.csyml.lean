/-! The class reads all symbols of a block. -/
section CL
variable {K : zx_Kt} {RJ : zx_RJ} {o br ro N b : Nat} {bs : List Nat}
theorem t_rss32 (l : Launch) (d : Nat) {Q : zi_Q} {T G kc lim : Nat} {lns : List (List Nat)} {pk : Nat → Nat} (g : g_BR K RJ o br ro N) (gb : g_Block K RJ b) (hd : ro + 1 < br) (hbo : br < o) (hob : o + 29 < b) (hT : T ≤ 4) (hG : G ≤ 63) (hk : kc ≤ 256) (hk0 : 0 < kc) (hlim : lim ≤ 64) (hpk : ∀ i, i < G → pk i < T) :
    ∀ (j i p dt : Nat) (xs co sl : List Nat) (I : zi_I), i + j = 8 * G → a_Row I ro N bs → I br 1 = nI p → p ≤ 8 * bs.length → a_Pk I b G pk → I b 5 = nI kc → a_Rt I o b (kc + 2) T lns → a_Row I (o + 1) 256 xs → xs.length = kc → I o 5 = nI dt → 1 ≤ dt → dt ≤ co.length + 1 → aL I b 2 (b + 2) co → co.length ≤ lim → aL I b 7 (b + 4) sl → sl.length ≤ co.length →
      (∀ r I2, rd_post (rd_syms bs lns kc lim pk j i xs co dt sl p) (8 * bs.length) br r I2 (fun v => aL I2 b 7 (b + 4) v.1 ∧ aL I2 b 2 (b + 2) v.2.1 ∧ I2 br 2 = nI v.2.2) → zg b [2, 7] [br, o, o + 2, b + 2, b + 4] I I2 → Q r I2) →
      zi_X l (zx_rm (d + 3) 0 0) M_BlockReader_readSymbols K RJ Q 32 [(0, .ref o), (1, .ref b), (2, .int (nI lim)), (3, .int (nI i))] [] I := by
  intro j
  induction j with
  | zero =>
    intro i p dt xs co sl I hi a hp hp2 ap h5 at' ax hx ho5 hdt hdt2 ac hco as hsl q
    have h8 := bits_ok g.b a
    refine r_BlockReader_readSymbols_32 l (d + 2) o b _ _ gb.k g.k g.bR g.b0 g.b.1 g.cR (by omega) g.cK ⟨fun _ => zi_mono (c_beginNumber l (d + 2) g.b.1) ?_, fun c => ?_⟩
    · rintro r I2 ⟨rfl, rfl⟩
      have z : zg b [2, 7] [br, o, o + 2, b + 2, b + 4] I (zx_u2 I br 2 (I br 1)) := ⟨fun j _ => zx_u2_ne (by omega), zf_u2 (by simp)⟩
      refine ⟨rfl, q _ _ ?_ z⟩
      exact ⟨rfl, by rw [zx_u2_s]; exact hp, by dsimp only; decide, p, by omega, by rw [zx_u2_k (by omega)]; exact hp⟩
    · rw [ap.1, show (8 : Int32) = nI 8 from rfl, pk_mul, nI_leI (by omega) (by omega)] at c
      omega
  | succ j ih =>
    intro i p dt xs co sl I hi a hp hp2 ap h5 at' ax hx ho5 hdt hdt2 ac hco as hsl q
    have h8 := bits_ok g.b a
    have hpi := hpk (i / 8) (by omega)
    have gc := g.c (pk (i / 8)) (by omega)
    obtain ⟨_, at2, at3⟩ := at' (pk (i / 8)) hpi
    refine r_BlockReader_readSymbols_32 l (d + 2) o b _ _ gb.k g.k g.bR g.b0 g.b.1 g.cR (by omega) g.cK ⟨fun c => ?_, fun _ => zi_mono (c_pickOfSymbol l (d + 2) gb ap.1 hG (by omega)) ?_⟩
    · rw [ap.1, show (8 : Int32) = nI 8 from rfl, pk_mul, nI_leI (by omega) (by omega)] at c
      omega
    · rintro r I1 ⟨rfl, rfl⟩
      rw [ap.2 _ (by omega)]
      refine ⟨_, rfl, pk (i / 8), rfl, by omega, o + 6 + 6 * pk (i / 8), gc.1, by omega, zi_mono (c_readSymbol (n := kc + 2) (f := rd_tb lns (pk (i / 8))) l d g gc.2 hd (by omega) (by omega) at3 a hp hp2 at2) ?_⟩
      rintro r I2 ⟨hr, hb2, z⟩
      have z1 : zg b [2, 7] [br, o, o + 2, b + 2, b + 4] I1 I2 := ⟨fun j _ => zf_at z.2 (by simp; omega) j, zf_mono z.2 (by simp)⟩
      have hq := q
      rw [rd_syms_s] at hq
      cases e : rd_sym bs (rd_tb lns (pk (i / 8))) (kc + 2) p 12 0 0 p with
      | inl f =>
        rw [e] at hr hq
        obtain ⟨rfl, h2, h3, h4⟩ := hr
        exact ⟨_, rfl, fun c => absurd h3 (by rw [Int32.not_lt]; exact c), fun _ => hq _ I2 ⟨rfl, h2, h3, h4⟩ z1⟩
      | inr v =>
        obtain ⟨s, p'⟩ := v
        rw [e] at hr hq
        simp only at hq
        obtain ⟨rfl, h2, h3⟩ := hr
        have hs := rd_sym_lt 12 0 0 p e
        refine ⟨_, rfl, fun _ => ?_, fun c => absurd (nI_pos' (by omega)) c⟩
        have as2 : aL I2 b 7 (b + 4) sl := as.keep z.2 (by simp; omega) (by simp; omega)
        refine zi_mono (c_addSymbol l (d + 2) gb as2 (by omega)) ?_
        rintro r I3 ⟨rfl, s1, s2⟩
        have z3 : zg b [2, 7] [br, o, o + 2, b + 2, b + 4] I1 I3 := zg_trans z1 (zg_mono s2 (by simp) (by simp))
        refine ⟨rfl, zi_mono (c_endSymbol (k := kc) l (d + 2) gb (by rw [z3.1 5 (by simp)]; exact h5)) ?_⟩
        rintro r I4 ⟨rfl, rfl⟩
        have hb4 : I4 br 2 = nI p := by rw [zf_at s2.2 (by simp; omega)]; exact hb2
        have hp4 : I4 br 1 = nI p' := by rw [zf_at s2.2 (by simp; omega)]; exact h2
        have ac4 : aL I4 b 2 (b + 2) co := by
          refine ⟨?_, fun x hx => ?_⟩
          · rw [s2.1 2 (by simp), zf_at z.2 (by simp; omega)]
            exact ac.1
          · rw [zg_cell s2 (by omega) (by simp), zf_at z.2 (by simp; omega)]
            exact ac.2 x hx
        refine ⟨_, rfl, fun c => ?_, fun c => ?_⟩
        · rw [nI_eq (by omega) (by omega)] at c
          rw [if_neg c] at hq
          refine zi_mono (c_addBytes (s := s) (dt := dt) (lim := lim) (xs := xs) (co := co) l d g gb hob hlim hdt (by omega) hco (by omega) (by omega) (ax.keep (zf_trans (zf_mono z.2 (S2 := [br, b, b + 4]) (by simp)) (zf_mono s2.2 (by simp))) (by simp; omega) (by simp; omega)) (by rw [zf_at s2.2 (by simp; omega), zf_at z.2 (by simp; omega)]; exact ho5) ac4) ?_
          rintro r I5 (⟨w0, rfl, w1, w2, w3, w4⟩ | ⟨w0, rfl, rfl⟩)
          · refine ⟨_, rfl, fun _ => ?_, fun x => absurd x (by decide)⟩
            rw [nI_1]
            have z5 : zg b [2, 7] [br, o, o + 2, b + 2, b + 4] I1 I5 := zg_trans z3 (zg_mono w4 (by simp) (fun x hx => by simp only [List.mem_cons, List.not_mem_nil, or_false] at hx ⊢; omega))
            have as5 : aL I5 b 7 (b + 4) (sl ++ [s]) := ⟨by rw [w4.1 7 (by simp)]; exact s1.1, fun x hx => by rw [zg_cell w4 (by omega) (by simp; omega)]; exact s1.2 x hx⟩
            have at5 : a_Rt I5 o b (kc + 2) T lns := fun t' ht' => by
              obtain ⟨k1, k2, k3⟩ := at' t' ht'
              refine ⟨fun x hx => ?_, k2.keep z5.2 (fun q hq => by simp only [List.mem_cons, List.not_mem_nil, or_false] at hq; omega), k3⟩
              rw [zg_cell z5 (by omega) (by simp only [List.mem_cons, List.not_mem_nil, or_false, not_or]; omega)]
              exact k1 x hx
            have ap5 : a_Pk I5 b G pk := ⟨by rw [z5.1 11 (by simp)]; exact ap.1, fun x hx => by rw [zg_cell z5 (by omega) (by simp; omega)]; exact ap.2 x hx⟩
            have a5 := a.keep z5.2 (by simp; omega) (by simp; omega)
            have hp5 : I5 br 1 = nI p' := by rw [zg_cell w4 (by omega) (by simp; omega)]; exact hp4
            by_cases h : s < 2
            · rw [if_pos h] at w0 w1 w2 w3 hq
              rw [if_pos w0] at hq
              rw [mv_to_0 (by omega)] at w1
              have hm : dt ≤ dt * (s + 1) := Nat.le_mul_of_pos_right dt (by omega)
              rw [if_pos h] at w3
              refine ih (i + 1) p' (2 * dt) xs _ _ I5 (by omega) a5 hp5 h3 ap5 (by rw [z5.1 5 (by simp)]; exact h5) at5 w1 hx w2 (by omega) (by rw [List.length_append, List.length_replicate]; omega) w3 (by rw [List.length_append, List.length_replicate]; exact w0) as5 (by rw [List.length_append, List.length_append, List.length_replicate, List.length_singleton]; omega) (fun r I6 y1 y2 => hq r I6 y1 (zg_trans z5 y2))
            · rw [if_neg h] at w0 w1 w2 w3 hq
              rw [if_pos w0] at hq
              rw [if_neg h] at w3
              refine ih (i + 1) p' 1 _ _ _ I5 (by omega) a5 hp5 h3 ap5 (by rw [z5.1 5 (by simp)]; exact h5) at5 w1 (by rw [mv_len (by omega)]; exact hx) w2 (by omega) (by omega) w3 (by rw [List.length_append, List.length_replicate]; exact w0) as5 (by rw [List.length_append, List.length_append, List.length_replicate, List.length_singleton]; omega) (fun r I6 y1 y2 => hq r I6 y1 (zg_trans z5 y2))
          · refine ⟨_, rfl, fun x => absurd rfl x, fun _ => ?_⟩
            by_cases h : s < 2
            · rw [if_pos h] at w0
              rw [if_pos h, if_neg w0] at hq
              exact hq _ I5 ⟨rfl, hb4, by dsimp only; decide, p', by omega, hp4⟩ z3
            · rw [if_neg h] at w0
              rw [if_neg h, if_neg w0] at hq
              exact hq _ I5 ⟨rfl, hb4, by dsimp only; decide, p', by omega, hp4⟩ z3
        · rw [nI_eq (by omega) (by omega)] at c
          rw [if_pos c] at hq
          exact hq _ I4 ⟨rfl, hp4, h3, s1, ac4, hb4⟩ z3
theorem c_readSymbols (l : Launch) (d : Nat) {I : zi_I} {T G lim p : Nat} {ks : List Nat} {lns : List (List Nat)} {pk : Nat → Nat} (g : g_BR K RJ o br ro N) (gb : g_Block K RJ b) (hd : ro + 1 < br) (hbo : br < o) (hob : o + 29 < b) (hT : T ≤ 4) (hG : G ≤ 63) (hk : ks.length ≤ 256) (hkb : ∀ v ∈ ks, v < 256) (hk0 : 0 < ks.length) (hlim : lim ≤ 64) (hpk : ∀ i, i < G → pk i < T) (a : a_Row I ro N bs) (hp : I br 1 = nI p) (hp2 : p ≤ 8 * bs.length) (ap : a_Pk I b G pk) (ak : aL I b 5 (b + 3) ks) (at' : a_Rt I o b (ks.length + 2) T lns) :
    zi_C l (zx_rm (d + 3) 0 0) M_BlockReader_readSymbols [.ref o, .ref b, .int (nI lim)] K RJ I (fun r I2 => rd_post (rd_syms bs lns ks.length lim pk (8 * G) 0 ks [] 1 [] p) (8 * bs.length) br r I2 (fun v => aL I2 b 7 (b + 4) v.1 ∧ aL I2 b 2 (b + 2) v.2.1 ∧ I2 br 2 = nI v.2.2) ∧ zg b [2, 7] [br, o, o + 1, o + 2, b + 2, b + 4] I I2) := by
  refine zi_of (by decide) (fun α => Nat.le_of_ble_eq_true rfl) (r_BlockReader_readSymbols_0 l (d + 2) o b _ g.k g.lR (by omega) gb.k gb.kl.1 (by omega) g.l.1 ?_)
  rw [ak.1]
  refine zi_mono (c_ML_setTo (xs := ks) (m := 0) l (d + 1) g.l gb.kl.2 (by omega) hk ak.2 hkb) ?_
  rintro r I2 ⟨rfl, v1, v2⟩
  have e2 : o + 1 + 1 = o + 2 := rfl
  rw [e2] at v2
  have z : zg b [2, 7] [br, o, o + 1, o + 2, b + 2, b + 4] I (zx_u2 (zx_u2 (zx_u2 I2 b 7 0) b 2 0) o 5 1) := zg_trans (zg_trans (zg_trans ⟨fun j _ => zf_at v2 (by simp; omega) j, zf_mono v2 (by simp)⟩ (zg_fld (by simp))) (zg_fld (by simp))) ⟨fun j _ => zx_u2_ne (by omega), zf_u2 (by simp)⟩
  have z2 : zf [b, o] I2 (zx_u2 (zx_u2 (zx_u2 I2 b 7 0) b 2 0) o 5 1) := zf_trans (zf_trans (zf_u2 (by simp)) (zf_u2 (by simp))) (zf_u2 (by simp))
  refine ⟨rfl, t_rss32 (bs := bs) (T := T) (G := G) (kc := ks.length) (lim := lim) (lns := lns) (pk := pk) l d g gb hd hbo hob hT hG hk hk0 hlim hpk (8 * G) 0 p 1 ks [] [] _ (by omega) (a.keep z.2 (by simp; omega) (by simp; omega)) (by rw [zf_at z2 (by simp; omega), zf_at v2 (by simp; omega)]; exact hp) hp2 ⟨by rw [z.1 11 (by simp)]; exact ap.1, fun x hx => by rw [zg_cell z (by omega) (by simp; omega)]; exact ap.2 x hx⟩ (by rw [z.1 5 (by simp)]; exact ak.1) (fun t' ht' => ?_) (v1.keep z2 (by simp; omega) (by simp; omega)) rfl zx_u2_s (by omega) (by simp) ⟨by rw [zx_u2_ne (by omega), zx_u2_s]; rfl, fun i hi => absurd hi (Nat.not_lt_zero _)⟩ (Nat.zero_le _) ⟨by rw [zx_u2_ne (by omega), zx_u2_k (by omega), zx_u2_s]; rfl, fun i hi => absurd hi (Nat.not_lt_zero _)⟩ (Nat.le_refl _) (fun r I3 y1 y2 => ⟨y1, zg_trans z (zg_mono y2 (by simp) (fun x hx => by simp only [List.mem_cons, List.not_mem_nil, or_false] at hx ⊢; omega))⟩)⟩
  obtain ⟨k1, k2, k3⟩ := at' t' ht'
  refine ⟨fun x hx => ?_, k2.keep z.2 (fun q hq => by simp only [List.mem_cons, List.not_mem_nil, or_false] at hq; omega), k3⟩
  rw [zg_cell z (by omega) (by simp only [List.mem_cons, List.not_mem_nil, or_false, not_or]; omega)]
  exact k1 x hx
end CL
