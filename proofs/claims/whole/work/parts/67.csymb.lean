/-! The class reads symbols. -/
theorem cd_d_le {ln : Nat → Nat} {n bits len : Nat} : ∀ k, cd_d ln n bits len k ≤ k
  | 0 => Nat.le_refl _
  | k + 1 => by
    have := cd_d_le (ln := ln) (n := n) (bits := bits) (len := len) k
    show (if cd_d ln n bits len k = 0 then (if ln k = len ∧ cd_c ln n k = bits then k + 1 else 0) else cd_d ln n bits len k) ≤ k + 1
    split
    · split <;> omega
    · omega
theorem rd_sym_lt {bs : List Nat} {ln : Nat → Nat} {n bg v q : Nat} : ∀ j b len p, rd_sym bs ln n bg j b len p = .inr (v, q) → v < n
  | 0, _, _, _, h => by
    unfold rd_sym at h
    exact absurd h (by simp)
  | j + 1, b, len, p, h => by
    unfold rd_sym at h
    have hd := cd_d_le (ln := ln) (n := n) (bits := 2 * b + bt_at bs p) (len := len + 1) n
    split at h
    · split at h
      · exact rd_sym_lt j _ _ _ h
      · simp only [Sum.inr.injEq, Prod.mk.injEq] at h
        omega
    · exact absurd h (by simp)
theorem rd_syms_s (bs : List Nat) (lns : List (List Nat)) (kc lim : Nat) (pk : Nat → Nat) (j i : Nat) (xs co : List Nat) (dt : Nat) (sl : List Nat) (p : Nat) : rd_syms bs lns kc lim pk (j + 1) i xs co dt sl p = match rd_sym bs (rd_tb lns (pk (i / 8))) (kc + 2) p 12 0 0 p with
    | .inl e => .inl e
    | .inr (s, q) => if s = kc + 1 then .inr ((sl ++ [s], co, p), q) else if s < 2 then (if co.length + dt * (s + 1) ≤ lim then rd_syms bs lns kc lim pk j (i + 1) xs (co ++ List.replicate (dt * (s + 1)) (xs.getD 0 0)) (2 * dt) (sl ++ [s]) q else .inl (-11, p)) else (if co.length + 1 ≤ lim then rd_syms bs lns kc lim pk j (i + 1) (mv_to xs (s - 1)) (co ++ [xs.getD (s - 1) 0]) 1 (sl ++ [s]) q else .inl (-11, p)) := rfl
theorem rd_syms_ok {bs : List Nat} {lns : List (List Nat)} {kc lim : Nat} {pk : Nat → Nat} {v : List Nat × List Nat × Nat} {q : Nat} : ∀ (j i : Nat) (xs co : List Nat) (dt : Nat) (sl : List Nat) (p : Nat), rd_syms bs lns kc lim pk j i xs co dt sl p = .inr (v, q) → xs.length = kc → 0 < kc → (∀ x ∈ xs, x < 256) → (∀ x ∈ co, x < 256) → co.length ≤ lim → sl.length ≤ co.length → 1 ≤ dt → (∀ s ∈ sl, s < kc + 2) → v.1.length ≤ v.2.1.length + 1 ∧ v.2.1.length ≤ lim ∧ (∀ x ∈ v.2.1, x < 256) ∧ (∀ s ∈ v.1, s < kc + 2) ∧ v.1.length ≤ sl.length + j ∧ 1 ≤ v.1.length
  | 0, i, xs, co, dt, sl, p, h, _, _, _, _, _, _, _, _ => by
    unfold rd_syms at h
    exact absurd h (by simp)
  | j + 1, i, xs, co, dt, sl, p, h, h1, h2, h3, h4, h5, h6, h7, h8 => by
    rw [rd_syms_s] at h
    cases e : rd_sym bs (rd_tb lns (pk (i / 8))) (kc + 2) p 12 0 0 p with
    | inl f =>
      rw [e] at h
      exact absurd h (by simp)
    | inr w =>
      obtain ⟨s, q'⟩ := w
      rw [e] at h
      have hs := rd_sym_lt 12 0 0 p e
      have hsl : ∀ x ∈ sl ++ [s], x < kc + 2 := fun x hx => by
        rcases List.mem_append.mp hx with hx | hx
        · exact h8 x hx
        · rw [List.mem_singleton] at hx
          omega
      simp only at h
      split at h
      · simp only [Sum.inr.injEq, Prod.mk.injEq] at h
        obtain ⟨rfl, rfl⟩ := h
        refine ⟨?_, h5, h4, hsl, ?_, ?_⟩
        · show (sl ++ [s]).length ≤ co.length + 1
          rw [List.length_append, List.length_singleton]
          omega
        · show (sl ++ [s]).length ≤ sl.length + (j + 1)
          rw [List.length_append, List.length_singleton]
          omega
        · show 1 ≤ (sl ++ [s]).length
          rw [List.length_append, List.length_singleton]
          omega
      · split at h
        · split at h
          · rename_i hlim
            have hm : 1 ≤ dt * (s + 1) := Nat.le_trans h7 (Nat.le_mul_of_pos_right dt (by omega))
            have := rd_syms_ok j (i + 1) xs _ (2 * dt) (sl ++ [s]) q' h h1 h2 h3 (fun x hx => by
              rcases List.mem_append.mp hx with hx | hx
              · exact h4 x hx
              · rw [List.mem_replicate] at hx
                rw [hx.2]
                exact h3 _ (getD_mem (by omega))) (by rw [List.length_append, List.length_replicate]; omega) (by rw [List.length_append, List.length_append, List.length_replicate, List.length_singleton]; omega) (by omega) hsl
            rw [List.length_append, List.length_singleton] at this
            exact ⟨this.1, this.2.1, this.2.2.1, this.2.2.2.1, by omega, this.2.2.2.2.2⟩
          · exact absurd h (by simp)
        · split at h
          · rename_i hlim
            have hk : s - 1 < xs.length := by omega
            have := rd_syms_ok j (i + 1) _ _ 1 (sl ++ [s]) q' h (by rw [mv_len hk]; exact h1) h2 (fun x hx => h3 x (mv_mem hk hx)) (fun x hx => by
              rcases List.mem_append.mp hx with hx | hx
              · exact h4 x hx
              · rw [List.mem_singleton] at hx
                rw [hx]
                exact h3 _ (getD_mem hk)) (by rw [List.length_append, List.length_singleton]; omega) (by rw [List.length_append, List.length_append, List.length_singleton, List.length_singleton]; omega) (by omega) hsl
            rw [List.length_append, List.length_singleton] at this
            exact ⟨this.1, this.2.1, this.2.2.1, this.2.2.2.1, by omega, this.2.2.2.2.2⟩
          · exact absurd h (by simp)
section CB
variable {K : zx_Kt} {RJ : zx_RJ} {o br ro N b : Nat} {bs : List Nat}
theorem hf_v_neg {v : Nat} (hv : v < 2 ^ 20) : hf_v v < 0 ↔ v = 0 := by
  unfold hf_v
  by_cases h : v = 0
  · rw [if_pos h]
    exact ⟨fun _ => h, fun _ => by decide⟩
  · rw [if_neg h]
    exact ⟨fun c => absurd c (nI_pos (by omega)), fun c => absurd c h⟩
theorem t_rsy11 (l : Launch) (d : Nat) {Q : zi_Q} {ct n bg : Nat} {f : Nat → Nat} (g : g_BR K RJ o br ro N) (gc : g_Codes K RJ ct 258) (hd : ro + 1 < br) (hbc : br < ct) (hn : n ≤ 258) (hf : ∀ s, s < n → 1 ≤ f s ∧ f s ≤ 12) :
    ∀ (j c len p : Nat) (I : zi_I), len + j = 12 → c < 2 ^ len → a_Row I ro N bs → I br 1 = nI p → p ≤ 8 * bs.length → I br 2 = nI bg → a_Codes I ct n f →
      (∀ r I2, rd_pv (rd_sym bs f n bg j c len p) (8 * bs.length) br r I2 → zg br [1] [] I I2 → Q r I2) →
      zi_X l (zx_rm (d + 2) 0 0) M_BlockReader_readSymbol K RJ Q 11 [(0, .ref o), (1, .ref ct), (2, .int (nI c)), (3, .int (nI (len + 1)))] [] I := by
  intro j
  induction j with
  | zero =>
    intro c len p I hj hc a hp hp2 hbg ac q
    obtain rfl : len = 12 := by omega
    have h8 := bits_ok g.b a
    exact r_BlockReader_readSymbol_11 l (d + 1) o ct _ _ g.k g.bR g.b0 g.b.1 gc.1 ⟨fun _ => q _ I ⟨rfl, hbg, by dsimp only; decide, p, by omega, hp⟩ zg_refl, fun c => absurd (by decide) c⟩
  | succ j ih =>
    intro c len p I hj hc a hp hp2 hbg ac q
    have h8 := bits_ok g.b a
    have hp12 := two_pow_12 (show len + 1 ≤ 12 by omega)
    have hbl := bt_lt bs p
    have hc2 : 2 * c + bt_at bs p < 2 ^ (len + 1) := by
      rw [Nat.pow_succ]
      omega
    refine r_BlockReader_readSymbol_11 l (d + 1) o ct _ _ g.k g.bR g.b0 g.b.1 gc.1 ⟨fun x => ?_, fun _ => zi_mono (c_takeBit l (d + 1) g.b a hp (by omega)) ?_⟩
    · rw [show (12 : Int32) = nI 12 from rfl, nI_ltI (by omega) (by omega)] at x
      omega
    · rintro r I2 (⟨h1, rfl, rfl⟩ | ⟨h1, rfl, rfl⟩)
      · have z : zg br [1] [] I (zx_u2 I br 1 (nI (p + 1))) := zg_fld (by simp)
        have ac2 : a_Codes (zx_u2 I br 1 (nI (p + 1))) ct n f := ac.keep z.2 (fun q hq => by simp only [List.mem_cons, List.not_mem_nil, or_false] at hq; omega)
        refine ⟨_, rfl, fun _ => ?_, fun x => absurd (nI_pos' (by omega)) x⟩
        rw [zb_in (by omega) hbl]
        refine zi_mono (c_find (bits := 2 * c + bt_at bs p) (len := len + 1) l d gc ac2 hn hf (by omega) (by omega) hc2) ?_
        rintro r I3 ⟨rfl, rfl⟩
        have hdl := cd_d_le (ln := f) (n := n) (bits := 2 * c + bt_at bs p) (len := len + 1) n
        refine ⟨_, rfl, fun x => ?_, fun x => ?_⟩
        · rw [hf_v_neg (by omega)] at x
          rw [nI_1]
          refine ih (2 * c + bt_at bs p) (len + 1) (p + 1) _ (by omega) hc2 (a.keep z.2 (by simp; omega) (by simp; omega)) zx_u2_s (by omega) (by rw [zx_u2_k (by omega)]; exact hbg) ac2 (fun r I4 y1 y2 => q r I4 ?_ (zg_trans z y2))
          unfold rd_sym
          rw [if_pos h1, if_pos x]
          exact y1
        · rw [hf_v_neg (by omega)] at x
          refine q _ _ ?_ z
          unfold rd_sym
          rw [if_pos h1, if_neg x]
          refine ⟨?_, zx_u2_s, by show p + 1 ≤ 8 * bs.length; omega⟩
          unfold hf_v
          rw [if_neg x]
      · refine ⟨_, rfl, fun x => absurd x m2_neg, fun _ => q _ I2 ?_ zg_refl⟩
        unfold rd_sym
        rw [if_neg (by omega)]
        exact ⟨rfl, hbg, by dsimp only; decide, p, by omega, hp⟩
theorem c_readSymbol (l : Launch) (d : Nat) {I : zi_I} {ct n p : Nat} {f : Nat → Nat} (g : g_BR K RJ o br ro N) (gc : g_Codes K RJ ct 258) (hd : ro + 1 < br) (hbc : br < ct) (hn : n ≤ 258) (hf : ∀ s, s < n → 1 ≤ f s ∧ f s ≤ 12) (a : a_Row I ro N bs) (hp : I br 1 = nI p) (hp2 : p ≤ 8 * bs.length) (ac : a_Codes I ct n f) :
    zi_C l (zx_rm (d + 2) 0 0) M_BlockReader_readSymbol [.ref o, .ref ct] K RJ I (fun r I2 => rd_pv (rd_sym bs f n p 12 0 0 p) (8 * bs.length) br r I2 ∧ I2 br 2 = nI p ∧ zg br [1, 2] [] I I2) := by
  refine zi_of (by decide) (fun α => Nat.le_of_ble_eq_true rfl) (r_BlockReader_readSymbol_0 l (d + 1) o ct g.k g.bR g.b0 g.b.1 (zi_mono (c_beginNumber l (d + 1) g.b.1) ?_))
  rintro r I2 ⟨rfl, rfl⟩
  have z : zg br [1, 2] [] I (zx_u2 I br 2 (I br 1)) := zg_fld (by simp)
  have ac2 : a_Codes (zx_u2 I br 2 (I br 1)) ct n f := ac.keep z.2 (fun q hq => by simp only [List.mem_cons, List.not_mem_nil, or_false] at hq; omega)
  have hb2 : zx_u2 I br 2 (I br 1) br 2 = nI p := by rw [zx_u2_s]; exact hp
  exact ⟨rfl, t_rsy11 (bs := bs) (n := n) (bg := p) (f := f) l d g gc hd hbc hn hf 12 0 0 p _ (by omega) (by decide) (a.keep z.2 (by simp; omega) (by simp; omega)) (by rw [zx_u2_k (by omega)]; exact hp) hp2 hb2 ac2 (fun r I3 y1 y2 => ⟨y1, by rw [y2.1 2 (by simp)]; exact hb2, zg_trans z (zg_mono y2 (by simp) (by simp))⟩)⟩
theorem c_addToColumn (l : Launch) (d : Nat) {I : zi_I} {v : Nat} {co : List Nat} (gb : g_Block K RJ b) (a : aL I b 2 (b + 2) co) (hl : co.length < 64) :
    zi_C l (zx_rm d 0 0) M_Block_addToColumn [.ref b, .int (nI v)] K RJ I (fun r I2 => r = none ∧ aL I2 b 2 (b + 2) (co ++ [v]) ∧ zg b [2] [b + 2] I I2) := by
  refine zi_of (by decide) (fun α => Nat.le_of_ble_eq_true rfl) (r_Block_addToColumn_0 l d b _ gb.k gb.co.1 (by omega) gb.co.2 ⟨fun c => ?_, fun _ => ⟨co.length, a.1, by omega, rfl, ?_, zg_trans (zg_arr (by simp) (by omega)) (zg_fld (by simp))⟩⟩)
  · rw [a.1, show (64 : Int32) = nI 64 from rfl, nI_leI (by omega) (by omega)] at c
    omega
  · rw [a.1, nI_1]
    exact aL_add a (by omega)
theorem t_ab66 (l : Launch) (d : Nat) {Q : zi_Q} {x2 x3 x4 : Int32} {many v : Nat} {co : List Nat} (g : g_BR K RJ o br ro N) (gb : g_Block K RJ b) (hob : o + 29 < b) (hm : co.length + many ≤ 64) :
    ∀ (j k : Nat) (I : zi_I), k + j = many → aL I b 2 (b + 2) (co ++ List.replicate k v) →
      (∀ I2, aL I2 b 2 (b + 2) (co ++ List.replicate many v) → zg b [2] [b + 2] I I2 → Q (some (.int 1)) (zx_u2 I2 o 5 (if x4 = 0 then 1 else 2 * I2 o 5))) →
      zi_X l (zx_rm (d + 1) 0 0) M_BlockReader_addBytes K RJ Q 66 [(0, .ref o), (1, .ref b), (2, .int x2), (3, .int x3), (4, .int x4), (5, .int (nI many)), (6, .int (nI v)), (7, .int (nI k))] [] I := by
  intro j
  induction j with
  | zero =>
    intro k I hk a q
    obtain rfl : k = many := by omega
    have q1 := q I a zg_refl
    refine r_BlockReader_addBytes_66 l d o b _ _ _ _ _ _ g.k gb.k ⟨fun _ => ⟨fun c => ?_, fun c => ?_⟩, fun c => absurd (nI_le (Nat.le_refl _) (by omega)) c⟩
    · rw [if_pos c] at q1
      exact r_BlockReader_addBytes_101 l d o b _ _ _ _ _ _ _ o g.k q1
    · rw [if_neg c] at q1
      exact r_BlockReader_addBytes_101 l d o b _ _ _ _ _ _ _ o g.k q1
  | succ j ih =>
    intro k I hk a q
    refine r_BlockReader_addBytes_66 l d o b _ _ _ _ _ _ g.k gb.k ⟨fun c => ?_, fun _ => zi_mono (c_addToColumn l d gb a (by rw [List.length_append, List.length_replicate]; omega)) ?_⟩
    · rw [nI_leI (by omega) (by omega)] at c
      omega
    · rintro r I2 ⟨rfl, v1, v2⟩
      rw [nI_1]
      rw [List.append_assoc, ← List.replicate_succ'] at v1
      exact ⟨rfl, ih (k + 1) I2 (by omega) v1 (fun I3 y1 y2 => q I3 y1 (zg_trans v2 y2))⟩
theorem mv_to_0 {xs : List Nat} (h : 0 < xs.length) : mv_to xs 0 = xs := by
  cases xs with
  | nil => exact absurd h (by decide)
  | cons x t => simp [mv_to]
/-- what a symbol says -/
def ab_ok (lim : Nat) (co xs : List Nat) (dt s : Nat) : Bool := decide (co.length + (if s < 2 then dt * (s + 1) else 1) ≤ lim)
theorem c_addBytes (l : Launch) (d : Nat) {I : zi_I} {s dt lim : Nat} {xs co : List Nat} (g : g_BR K RJ o br ro N) (gb : g_Block K RJ b) (hob : o + 29 < b) (hlim : lim ≤ 64) (hdt : 1 ≤ dt) (hdt2 : dt ≤ 65) (hco : co.length ≤ lim) (hx : 0 < xs.length) (hs : s ≤ xs.length) (ax : a_Row I (o + 1) 256 xs) (h5 : I o 5 = nI dt) (ac : aL I b 2 (b + 2) co) :
    zi_C l (zx_rm (d + 2) 0 0) M_BlockReader_addBytes [.ref o, .ref b, .int (nI s), .int (nI lim)] K RJ I (fun r I2 => (co.length + (if s < 2 then dt * (s + 1) else 1) ≤ lim ∧ r = some (.int 1) ∧ a_Row I2 (o + 1) 256 (mv_to xs (if s < 2 then 0 else s - 1)) ∧ I2 o 5 = nI (if s < 2 then 2 * dt else 1) ∧ aL I2 b 2 (b + 2) (co ++ List.replicate (if s < 2 then dt * (s + 1) else 1) (xs.getD (if s < 2 then 0 else s - 1) 0)) ∧ zg b [2] [b + 2, o, o + 2] I I2) ∨ (¬ co.length + (if s < 2 then dt * (s + 1) else 1) ≤ lim ∧ r = some (.int 0) ∧ I2 = I)) := by
  have hxl := ax.1
  -- from the number of bytes on
  have main : ∀ (dg : Bool) (many pl : Nat), (dg = true ↔ s < 2) → many = (if s < 2 then dt * (s + 1) else 1) → pl = (if s < 2 then 0 else s - 1) → zi_X l (zx_rm (d + 2) 0 0) M_BlockReader_addBytes K RJ (fun r I2 => (co.length + many ≤ lim ∧ r = some (.int 1) ∧ a_Row I2 (o + 1) 256 (mv_to xs pl) ∧ I2 o 5 = nI (if s < 2 then 2 * dt else 1) ∧ aL I2 b 2 (b + 2) (co ++ List.replicate many (xs.getD pl 0)) ∧ zg b [2] [b + 2, o, o + 2] I I2) ∨ (¬ co.length + many ≤ lim ∧ r = some (.int 0) ∧ I2 = I)) 27 [(0, .ref o), (1, .ref b), (2, .int (nI s)), (3, .int (nI lim)), (4, .int (if dg = true then 1 else 0))] [.int (nI many)] I := by
    intro dg many pl hdg hmany hpl
    have hmb : many ≤ 130 := by
      rw [hmany]
      split
      · have : s = 0 ∨ s = 1 := by omega
        rcases this with h | h <;> rw [h] <;> omega
      · omega
    have hpx : pl < xs.length := by
      rw [hpl]
      split <;> omega
    refine r_BlockReader_addBytes_27 l (d + 1) o b _ _ _ _ gb.k g.k g.lR (by omega) ⟨fun c => ?_, fun c => ?_⟩
    · rw [ac.1, nI_add, nI_leI (by omega) (by omega)] at c
      have go : ∀ (x4 : Int32), (x4 = 0 ↔ ¬ s < 2) → zi_X l (zx_rm (d + 2) 0 0) M_BlockReader_addBytes K RJ (fun r I2 => (co.length + many ≤ lim ∧ r = some (.int 1) ∧ a_Row I2 (o + 1) 256 (mv_to xs pl) ∧ I2 o 5 = nI (if s < 2 then 2 * dt else 1) ∧ aL I2 b 2 (b + 2) (co ++ List.replicate many (xs.getD pl 0)) ∧ zg b [2] [b + 2, o, o + 2] I I2) ∨ (¬ co.length + many ≤ lim ∧ r = some (.int 0) ∧ I2 = I)) 58 [(0, .ref o), (1, .ref b), (2, .int (nI s)), (3, .int (nI lim)), (4, .int x4), (5, .int (nI many))] [.int (nI pl), .ref (o + 1)] I := by
        intro x4 hx4
        refine r_BlockReader_addBytes_58 l (d + 1) o b _ _ _ _ _ (o + 1) g.l.1 (zi_mono (c_movePlace l d g.l ax hpx) ?_)
        rintro r I2 ⟨rfl, v1, v2⟩
        have z2 : zg b [2] [b + 2, o, o + 2] I I2 := ⟨fun j _ => zf_at v2 (by simp; omega) j, zf_mono v2 (by simp)⟩
        refine ⟨_, rfl, t_ab66 (N := N) (ro := ro) (br := br) (many := many) (co := co) l (d + 1) g gb hob (by omega) many 0 I2 (by omega) (by rw [List.replicate_zero, List.append_nil]; exact ac.keep v2 (by simp; omega) (by simp; omega)) (fun I3 y1 y2 => Or.inl ⟨c, rfl, ?_, ?_, ?_, ?_⟩)⟩
        · exact (v1.keep y2.2 (by simp; omega) (by simp; omega)).keep (zf_u2 (S := [o]) (by simp)) (by simp <;> omega) (by simp <;> omega)
        · have h53 : I3 o 5 = nI dt := by rw [zf_at y2.2 (by simp; omega), zf_at v2 (by simp <;> omega)]; exact h5
          rw [zx_u2_s, h53]
          by_cases h : s < 2
          · rw [if_neg (fun z => (hx4.mp z) h), if_pos h, show (2 : Int32) = nI 2 from rfl, pk_mul]
          · rw [if_pos (hx4.mpr h), if_neg h]
            rfl
        · exact y1.keep (zf_u2 (S := [o]) (by simp)) (by simp; omega) (by simp; omega)
        · exact zg_trans (zg_trans z2 (zg_mono y2 (by simp) (by simp))) ⟨fun j _ => zx_u2_ne (by omega), zf_u2 (by simp)⟩
      refine ⟨fun c2 => ?_, fun c2 => ?_⟩
      · have hn : ¬ s < 2 := fun h => by
          rw [if_pos (hdg.mpr h)] at c2
          exact absurd c2 (by decide)
        rw [if_neg hn] at hpl
        have e : nI s - 1 = nI pl := by
          rw [hpl, show (1 : Int32) = nI 1 from rfl, pk_sub (by omega)]
        rw [e]
        exact go (if dg = true then 1 else 0) ⟨fun _ => hn, fun _ => c2⟩
      · have hy : s < 2 := by
          by_cases h : s < 2
          · exact h
          · rw [if_neg (fun z => h (hdg.mp z))] at c2
            exact absurd rfl c2
        rw [if_pos hy] at hpl
        have h := go (if dg = true then 1 else 0) ⟨fun z => absurd z c2, fun z => absurd hy z⟩
        have e : (0 : Int32) = nI pl := by
          rw [hpl]
          rfl
        rw [← e] at h
        exact h
    · rw [ac.1, nI_add, nI_leI (by omega) (by omega)] at c
      exact Or.inr ⟨c, rfl, rfl⟩
  refine zi_of (by decide) (fun α => Nat.le_of_ble_eq_true rfl) (r_BlockReader_addBytes_0 l (d + 1) o b _ _ ⟨fun c => ?_, fun c => ?_⟩)
  · rw [show (2 : Int32) = nI 2 from rfl, nI_leI (by omega) (by omega)] at c
    have := main false (if s < 2 then dt * (s + 1) else 1) (if s < 2 then 0 else s - 1) ⟨fun z => absurd z (by decide), fun z => absurd z (by omega)⟩ rfl rfl
    refine r_BlockReader_addBytes_10 l (d + 1) o b _ _ _ g.k ⟨fun _ => ?_, fun c => absurd rfl c⟩
    rw [if_neg (show ¬ s < 2 by omega)] at this ⊢
    exact this
  · rw [show (2 : Int32) = nI 2 from rfl, nI_leI (by omega) (by omega)] at c
    have := main true (if s < 2 then dt * (s + 1) else 1) (if s < 2 then 0 else s - 1) ⟨fun _ => by omega, fun _ => rfl⟩ rfl rfl
    refine r_BlockReader_addBytes_10 l (d + 1) o b _ _ _ g.k ⟨fun c => absurd c (by decide), fun _ => ?_⟩
    have es : (I o 5) <<< (nI s &&& 31) = nI (dt * (s + 1)) := by
      rw [h5, zb_shl (by omega) (by
        have : s = 0 ∨ s = 1 := by omega
        rcases this with h | h <;> rw [h] <;> omega)]
      have : s = 0 ∨ s = 1 := by omega
      rcases this with h | h <;> rw [h]
    rw [es]
    rw [if_pos (show s < 2 by omega)] at this ⊢
    exact this
end CB
