/-! The reference reads symbols. -/
/-- a number that is read, or the fault -/
def md_pv (rd : rd_R Nat) (n8 m : Nat) (r : Option Value) (I2 : zi_I) : Prop :=
  match rd with
  | .inl e => r = some (.int (-1)) ∧ I2 m 8 = e.1 ∧ I2 m 9 = nI e.2 ∧ e.1 ≠ 0 ∧ ∃ p2, p2 ≤ n8 ∧ I2 m 7 = nI p2
  | .inr v => r = some (.int (nI v.1)) ∧ I2 m 8 = 0 ∧ I2 m 7 = nI v.2 ∧ v.2 ≤ n8
section MSY
variable {K : zx_Kt} {RJ : zx_RJ} {m p : Nat} {bs : List Nat}
theorem t_msy13 (l : Launch) (d : Nat) {Q : zi_Q} {t ks bg : Nat} {f : Nat → Nat} (g : g_Mod K RJ m) (ht : t < 4) (hk : ks ≤ 256) (hf : ∀ s, s < ks + 2 → f s ≤ 12) :
    ∀ (j c len p : Nat) (I : zi_I), len + j = 12 → c < 2 ^ len → a_In I m bs → I m 7 = nI p → p ≤ 8 * bs.length → I m 8 = 0 → I m 22 = nI ks → a_Tb I m t (ks + 2) f → (∀ s, s < ks + 2 → I (m + 11) (260 * t + s) = nI (cd_c f (ks + 2) s)) →
      (∀ r I2, md_pv (rd_sym bs f (ks + 2) bg j c len p) (8 * bs.length) m r I2 → zg m [7, 8, 9] [] I I2 → Q r I2) →
      zi_X l (zx_rm (d + 2) 0 0) M_Mod_readSymbol K RJ Q 13 [(0, .ref m), (1, .int (nI t)), (2, .int (nI bg)), (3, .int (nI c)), (4, .int (nI len)), (5, .int (-1))] [] I := by
  intro j
  induction j with
  | zero =>
    intro c len p I hj hc a h7 hp h8 h22 hl hcd q
    obtain rfl : len = 12 := by omega
    have hb := a.1
    refine r_Mod_readSymbol_13 l (d + 1) m _ _ _ _ _ g.1 ⟨fun x => absurd x (by decide), fun _ => ⟨fun x => absurd h8 x, fun _ => ⟨fun x => absurd rfl x, fun _ => zi_mono (c_fi l d g.1) ?_⟩⟩⟩
    rintro r I2 ⟨rfl, (⟨_, _, k1, k2, k3, k4⟩ | ⟨h, _⟩)⟩
    · have n2 : ¬ I2 m 8 = 0 := by rw [k1]; decide
      have h72 : I2 m 7 = nI p := by rw [k3]; exact h7
      refine ⟨rfl, zi_mono (c_take (k := 1) l d g (a.keepg k4 (by simp) (by simp)) h72 (by omega) (by decide)) ?_⟩
      rintro r I3 (⟨h, _⟩ | ⟨h, _⟩ | ⟨_, rfl, rfl⟩)
      · exact absurd h n2
      · exact absurd h n2
      · refine ⟨_, rfl, fun _ => r_Mod_readSymbol_13 l (d + 1) m _ _ _ _ _ g.1 ⟨fun x => absurd x (by decide), fun _ => ⟨fun _ => q _ I3 ⟨rfl, k1, k2, by dsimp only; decide, p, hp, h72⟩ (zg_mono k4 (by simp) (by simp)), fun x => absurd x n2⟩⟩, fun x => absurd x n2⟩
    · exact absurd ⟨by decide, h8⟩ h
  | succ j ih =>
    intro c len p I hj hc a h7 hp h8 h22 hl hcd q
    have hb := a.1
    have hp12 := two_pow_12 (show len + 1 ≤ 12 by omega)
    have hbl := bt_lt bs p
    have hc2 : 2 * c + bt_at bs p < 2 ^ (len + 1) := by
      rw [Nat.pow_succ]
      omega
    refine r_Mod_readSymbol_13 l (d + 1) m _ _ _ _ _ g.1 ⟨fun x => absurd x (by decide), fun _ => ⟨fun x => absurd h8 x, fun _ => ⟨fun _ => zi_mono (c_fi l d g.1) ?_, fun x => ?_⟩⟩⟩
    · rintro r I1 ⟨rfl, (⟨h, _⟩ | ⟨_, rfl⟩)⟩
      · exact absurd rfl h
      · refine ⟨rfl, zi_mono (c_mt (k := 1) l d g a h7 hp h8 (by decide)) ?_⟩
        rintro r I2 ⟨⟨v, rfl, hv⟩, z⟩
        rcases hv with ⟨e1, rfl, e3, e4⟩ | ⟨e1, rfl, e3, e4, e5⟩
        · have eb : bt_num bs p 1 = bt_at bs p := by
            show 2 * 0 + bt_at bs (p + 0) = _
            rw [Nat.add_zero]
            omega
          rw [eb]
          have ev : (2 : Int32) * nI c + nI (bt_at bs p) = nI (2 * c + bt_at bs p) := by rw [show (2 : Int32) = nI 2 from rfl, pk_mul, nI_add]
          refine ⟨_, rfl, fun x => absurd e4 x, fun _ => ?_⟩
          rw [ev, nI_1]
          have hl2 := hl.keep z (by simp)
          have hcd2 : ∀ s, s < ks + 2 → I2 (m + 11) (260 * t + s) = nI (cd_c f (ks + 2) s) := fun s hs => by rw [zg_cell z (by omega) (by simp)]; exact hcd s hs
          have h222 : I2 m 22 = nI ks := by rw [z.1 22 (by simp)]; exact h22
          refine zi_mono (c_decode (bits := 2 * c + bt_at bs p) (len := len + 1) l (d + 1) g ht hk h222 (by omega) hf (by omega) hl2 hcd2) ?_
          rintro r I3 ⟨rfl, rfl⟩
          refine ⟨_, rfl, ?_⟩
          have hdl := cd_d_le (ln := f) (n := ks + 2) (bits := 2 * c + bt_at bs p) (len := len + 1) (ks + 2)
          by_cases h0 : cd_d f (ks + 2) (2 * c + bt_at bs p) (len + 1) (ks + 2) = 0
          · have := ih (2 * c + bt_at bs p) (len + 1) (p + 1) I3 (by omega) hc2 (a.keepg z (by simp) (by simp)) e3 e1 e4 h222 hl2 hcd2 (fun r I4 y1 y2 => q r I4 (by
              unfold rd_sym
              rw [if_pos (by omega), if_pos h0]
              exact y1) (zg_trans z y2))
            rw [h0]
            exact this
          · have ev2 : hf_v (cd_d f (ks + 2) (2 * c + bt_at bs p) (len + 1) (ks + 2)) = nI (cd_d f (ks + 2) (2 * c + bt_at bs p) (len + 1) (ks + 2) - 1) := by
              unfold hf_v
              rw [if_neg h0]
            rw [ev2]
            refine r_Mod_readSymbol_13 l (d + 1) m _ _ _ _ _ g.1 ⟨fun _ => q _ I3 ?_ z, fun x => absurd (nI_pos' (by omega)) x⟩
            unfold rd_sym
            rw [if_pos (by omega), if_neg h0]
            exact ⟨rfl, e4, e3, e1⟩
        · have n2 : ¬ I2 m 8 = 0 := by rw [e4]; decide
          refine ⟨_, rfl, fun _ => r_Mod_readSymbol_13 l (d + 1) m _ _ _ _ _ g.1 ⟨fun x => absurd x (by decide), fun _ => ⟨fun _ => q _ I2 ?_ z, fun x => absurd x n2⟩⟩, fun x => absurd x n2⟩
          unfold rd_sym
          rw [if_neg (by omega)]
          exact ⟨rfl, e4, e5, by dsimp only; decide, p, hp, e3⟩
    · rw [show (12 : Int32) = nI 12 from rfl, nI_eq (by omega) (by omega)] at x
      omega
theorem c_mreadSymbol (l : Launch) (d : Nat) {I : zi_I} {t ks : Nat} {f : Nat → Nat} (g : g_Mod K RJ m) (ht : t < 4) (hk : ks ≤ 256) (hf : ∀ s, s < ks + 2 → f s ≤ 12) (a : a_In I m bs) (h7 : I m 7 = nI p) (hp : p ≤ 8 * bs.length) (h8 : I m 8 = 0) (h22 : I m 22 = nI ks) (hl : a_Tb I m t (ks + 2) f) (hcd : ∀ s, s < ks + 2 → I (m + 11) (260 * t + s) = nI (cd_c f (ks + 2) s)) :
    zi_C l (zx_rm (d + 2) 0 0) M_Mod_readSymbol [.ref m, .int (nI t)] K RJ I (fun r I2 => md_pv (rd_sym bs f (ks + 2) p 12 0 0 p) (8 * bs.length) m r I2 ∧ zg m [7, 8, 9] [] I I2) := by
  refine zi_of (by decide) (fun α => Nat.le_of_ble_eq_true rfl) (r_Mod_readSymbol_0 l (d + 1) m _ g.1 ?_)
  rw [h7]
  exact t_msy13 (bs := bs) (t := t) (ks := ks) (bg := p) (f := f) l d g ht hk hf 12 0 0 p I (by omega) (by decide) a h7 hp h8 h22 hl hcd (fun r I2 y1 y2 => ⟨y1, y2⟩)
theorem t_mac (l : Launch) (d : Nat) {Q : zi_Q} {v n : Nat} {co : List Nat} (g : g_Mod K RJ m) (hn : co.length + n ≤ 80) :
    ∀ (j k : Nat) (I : zi_I), k + j = n → aL I m 14 (m + 6) (co ++ List.replicate k v) →
      (∀ I2, aL I2 m 14 (m + 6) (co ++ List.replicate n v) → zg m [14] [m + 6] I I2 → Q none I2) →
      zi_X l (zx_rm d 0 0) M_Mod_addColumn K RJ Q 2 [(0, .ref m), (1, .int (nI v)), (2, .int (nI n)), (3, .int (nI k))] [] I := by
  intro j
  induction j with
  | zero =>
    intro k I hk a q
    obtain rfl : k = n := by omega
    exact r_Mod_addColumn_2 l d m _ _ _ g.1 g.columnR (by omega) g.columnK ⟨fun _ => q I a zg_refl, fun c => absurd (nI_le (Nat.le_refl _) (by omega)) c⟩
  | succ j ih =>
    intro k I hk a q
    have el : (co ++ List.replicate k v).length = co.length + k := by rw [List.length_append, List.length_replicate]
    refine r_Mod_addColumn_2 l d m _ _ _ g.1 g.columnR (by omega) g.columnK ⟨fun c => ?_, fun _ => ⟨co.length + k, by rw [a.1, el], by omega, ?_⟩⟩
    · rw [nI_leI (by omega) (by omega)] at c
      omega
    · rw [a.1, el, nI_1, nI_1]
      have a2 := aL_add (v := v) a (by omega)
      rw [el, List.append_assoc, ← List.replicate_succ'] at a2
      have z : zg m [14] [m + 6] I (zx_u2 (zx_u2 I (m + 6) (co.length + k) (nI v)) m 14 (nI (co.length + k + 1))) := zg_trans (zg_arr (by simp) (by omega)) (zg_fld (by simp))
      exact ih (k + 1) _ (by omega) a2 (fun I3 y1 y2 => q I3 y1 (zg_trans z y2))
theorem c_addColumn (l : Launch) (d : Nat) {I : zi_I} {v n : Nat} {co : List Nat} (g : g_Mod K RJ m) (hn : co.length + n ≤ 80) (a : aL I m 14 (m + 6) co) :
    zi_C l (zx_rm d 0 0) M_Mod_addColumn [.ref m, .int (nI v), .int (nI n)] K RJ I (fun r I2 => r = none ∧ aL I2 m 14 (m + 6) (co ++ List.replicate n v) ∧ zg m [14] [m + 6] I I2) :=
  zi_of (by decide) (fun α => Nat.le_of_ble_eq_true rfl) (r_Mod_addColumn_0 l d m _ _ (t_mac l d g hn n 0 I (by omega) (by rw [List.replicate_zero, List.append_nil]; exact a) (fun I2 y1 y2 => ⟨rfl, y1, y2⟩)))
/-- how the reference's reading of symbols ends -/
def ms_post (rd : rd_R (List Nat × List Nat × Nat)) (n8 m : Nat) (r : Option Value) (I2 : zi_I) : Prop :=
  match rd with
  | .inl e => (∃ x, r = some (.int x)) ∧ I2 m 8 = e.1 ∧ I2 m 9 = nI e.2 ∧ e.1 ≠ 0 ∧ ∃ p2, p2 ≤ n8 ∧ I2 m 7 = nI p2
  | .inr v => r = some (.int (nI v.1.2.2)) ∧ I2 m 8 = 0 ∧ I2 m 7 = nI v.2 ∧ v.2 ≤ n8 ∧ aL I2 m 17 (m + 7) v.1.1 ∧ aL I2 m 14 (m + 6) v.1.2.1
/-- the tables that the reference has read -/
def a_MRt (I : zi_I) (m n T : Nat) (L : List (List Nat)) : Prop := ∀ t, t < T → a_Tb I m t n (rd_tb L t) ∧ (∀ s, s < n → I (m + 11) (260 * t + s) = nI (cd_c (rd_tb L t) n s)) ∧ ∀ s, s < n → 1 ≤ rd_tb L t s ∧ rd_tb L t s ≤ 12
theorem a_MRt.keep {I I2 : zi_I} {n T : Nat} {L : List (List Nat)} {F S : List Nat} (a : a_MRt I m n T L) (h : zg m F S I I2) (h1 : m + 10 ∉ S) (h2 : m + 11 ∉ S) : a_MRt I2 m n T L := fun t ht => by
  obtain ⟨k1, k2, k3⟩ := a t ht
  exact ⟨k1.keep h h1, fun s hs => by rw [zg_cell h (by omega) h2]; exact k2 s hs, k3⟩
theorem t_mss23 (l : Launch) (d : Nat) {Q : zi_Q} {T G ks lim : Nat} {lns : List (List Nat)} {pk : Nat → Nat} (g : g_Mod K RJ m) (hT : T ≤ 4) (hG : G ≤ 63) (hk : ks ≤ 256) (hk0 : 0 < ks) (hlim : lim ≤ 64) (hpk : ∀ i, i < G → pk i < T) :
    ∀ (j i p dt run : Nat) (xs cl sl : List Nat) (x4 : Int32) (I : zi_I), i + j = 8 * G → sl.length = i → a_In I m bs → I m 7 = nI p → p ≤ 8 * bs.length → I m 8 = 0 → a_MP I m G pk → I m 22 = nI ks → a_MRt I m (ks + 2) T lns → aA I (m + 9) xs → xs.length = ks → (∀ v ∈ xs, v < 256) → 1 ≤ dt → dt ≤ cl.length + run + 1 → aL I m 14 (m + 6) cl → cl.length + run ≤ lim → aL I m 17 (m + 7) sl → sl.length ≤ cl.length + run →
      (∀ r I2, ms_post (rd_syms bs lns ks lim pk j i xs (cl ++ List.replicate run (xs.getD 0 0)) dt sl p) (8 * bs.length) m r I2 → zg m [7, 8, 9, 14, 17] [m + 6, m + 7, m + 9] I I2 → Q r I2) →
      zi_X l (zx_rm (d + 3) 0 0) M_Mod_readSymbols K RJ Q 23 [(0, .ref m), (1, .int (nI lim)), (2, .int (nI run)), (3, .int (nI dt)), (4, .int x4), (5, .int 1)] [] I := by
  -- after a fault: the loop ends
  have stop : ∀ (I : zi_I) (x2 x3 x4 x5 x6 : Int32), ¬ I m 8 = 0 → Q (some (.int x4)) I → zi_X l (zx_rm (d + 3) 0 0) M_Mod_readSymbols K RJ Q 239 [(0, .ref m), (1, .int (nI lim)), (2, .int x2), (3, .int x3), (4, .int x4), (5, .int x5), (6, .int x6)] [] I := fun I x2 x3 x4 x5 x6 n8 hq =>
    r_Mod_readSymbols_239 l (d + 2) m _ _ _ _ _ _ (r_Mod_readSymbols_23 l (d + 2) m _ _ _ _ _ g.1 ⟨fun _ => r_Mod_readSymbols_242 l (d + 2) m _ _ _ _ _ hq, fun _ => ⟨fun _ => r_Mod_readSymbols_242 l (d + 2) m _ _ _ _ _ hq, fun c => absurd c n8⟩⟩)
  intro j
  induction j with
  | zero =>
    intro i p dt run xs cl sl x4 I hi hsi a h7 hp h8 ap h22 at' ax hx hxb hdt hdt2 ac hco as hsl q
    have e17 : I m 17 = (8 : Int32) * I m 28 := by
      rw [as.1, ap.1, show (8 : Int32) = nI 8 from rfl, pk_mul, hsi, show i = 8 * G by omega]
    refine r_Mod_readSymbols_23 l (d + 2) m _ _ _ _ _ g.1 ⟨fun c => absurd c (by decide), fun _ => ⟨fun c => absurd h8 c, fun _ => ⟨fun c => absurd e17 c, fun _ => ?_⟩⟩⟩
    rw [h7]
    refine r_Mod_readSymbols_61 l (d + 2) m _ _ _ _ _ _ m g.1 g.1 g.picksR (by omega) g.picksK (zi_mono (c_fi l (d + 1) g.1) ?_)
    rintro r I2 ⟨rfl, (⟨_, _, k1, k2, k3, k4⟩ | ⟨h, _⟩)⟩
    · have n2 : ¬ I2 m 8 = 0 := by rw [k1]; decide
      refine ⟨rfl, fun _ => r_Mod_readSymbols_95 l (d + 2) m _ _ _ _ _ _ g.1 g.listR (by omega) g.listK ⟨fun _ => stop I2 _ _ _ _ _ n2 (q _ I2 ?_ (zg_mono k4 (by simp) (by simp))), fun c => absurd c n2⟩, fun c => absurd c n2⟩
      exact ⟨⟨_, rfl⟩, k1, k2, by dsimp only; decide, p, hp, by rw [k3]; exact h7⟩
    · exact absurd ⟨by decide, h8⟩ h
  | succ j ih =>
    intro i p dt run xs cl sl x4 I hi hsi a h7 hp h8 ap h22 at' ax hx hxb hdt hdt2 ac hco as hsl q
    have hb := a.1
    have hpi := hpk (i / 8) (by omega)
    obtain ⟨at1, at2, at3⟩ := at' (pk (i / 8)) hpi
    have e8 : I m 17 / 8 = nI (i / 8) := by
      rw [as.1, hsi]
      exact pk_div (d := 8) (by omega) (by omega) (by omega)
    have n17 : ¬ I m 17 = (8 : Int32) * I m 28 := by
      rw [as.1, ap.1, show (8 : Int32) = nI 8 from rfl, pk_mul, nI_eq (by omega) (by omega)]
      omega
    refine r_Mod_readSymbols_23 l (d + 2) m _ _ _ _ _ g.1 ⟨fun c => absurd c (by decide), fun _ => ⟨fun c => absurd h8 c, fun _ => ⟨fun _ => ?_, fun c => absurd c n17⟩⟩⟩
    rw [h7]
    refine r_Mod_readSymbols_61 l (d + 2) m _ _ _ _ _ _ m g.1 g.1 g.picksR (by omega) g.picksK (zi_mono (c_fi l (d + 1) g.1) ?_)
    rintro r I1 ⟨rfl, (⟨h, _⟩ | ⟨_, rfl⟩)⟩
    · exact absurd rfl h
    · refine ⟨rfl, fun c => absurd h8 c, fun _ => ⟨i / 8, e8, by omega, ?_⟩⟩
      rw [ap.2 _ (by omega)]
      refine zi_mono (c_mreadSymbol (ks := ks) (f := rd_tb lns (pk (i / 8))) l d g (by omega) hk (fun s hs => (at3 s hs).2) a h7 hp h8 h22 at1 at2) ?_
      rintro r I2 ⟨hr, z⟩
      have z1 : zg m [7, 8, 9, 14, 17] [m + 6, m + 7, m + 9] I1 I2 := zg_mono z (by simp) (by simp)
      have hq := q
      rw [rd_syms_s] at hq
      cases e : rd_sym bs (rd_tb lns (pk (i / 8))) (ks + 2) p 12 0 0 p with
      | inl f =>
        rw [e] at hr hq
        obtain ⟨rfl, k1, k2, k3, k4⟩ := hr
        have n2 : ¬ I2 m 8 = 0 := by rw [k1]; exact k3
        exact ⟨_, rfl, r_Mod_readSymbols_95 l (d + 2) m _ _ _ _ _ _ g.1 g.listR (by omega) g.listK ⟨fun _ => stop I2 _ _ _ _ _ n2 (hq _ I2 ⟨⟨_, rfl⟩, k1, k2, k3, k4⟩ z1), fun c => absurd c n2⟩⟩
      | inr v =>
        obtain ⟨s, p'⟩ := v
        rw [e] at hr hq
        simp only at hq
        obtain ⟨rfl, k1, k2, k3⟩ := hr
        have hs := rd_sym_lt 12 0 0 p e
        have as2 : aL I2 m 17 (m + 7) sl := as.keepg z (by simp) (by omega) (by simp)
        refine ⟨_, rfl, r_Mod_readSymbols_95 l (d + 2) m _ _ _ _ _ _ g.1 g.listR (by omega) g.listK ⟨fun c => absurd k1 c, fun _ => zi_mono (c_maddSymbol l (d + 2) g as2 (by omega)) ?_⟩⟩
        rintro r I3 ⟨rfl, s1, s2⟩
        have z3 : zg m [7, 8, 9, 14, 17] [m + 6, m + 7, m + 9] I1 I3 := zg_trans z1 (zg_mono s2 (by simp) (by simp))
        have z3' : zg m [7, 8, 9, 17] [m + 7] I1 I3 := zg_trans (zg_mono z (by simp) (by simp)) (zg_mono s2 (by simp) (by simp))
        have h83 : I3 m 8 = 0 := by rw [s2.1 8 (by simp)]; exact k1
        have h73 : I3 m 7 = nI p' := by rw [s2.1 7 (by simp)]; exact k2
        have ac3 : aL I3 m 14 (m + 6) cl := ac.keepg z3' (by simp) (by omega) (by simp)
        have ax3 : aA I3 (m + 9) xs := fun x hx => by rw [zg_cell z3' (by omega) (by simp)]; exact ax x hx
        have ap3 : a_MP I3 m G pk := ap.keep z3' (by simp) (by simp)
        have h223 : I3 m 22 = nI ks := by rw [z3'.1 22 (by simp)]; exact h22
        have a3 := a.keepg z3' (by simp) (by simp)
        have at4 := at'.keep z3' (by simp) (by simp)
        have x0 : xs.getD 0 0 < 256 := hxb _ (getD_mem (by omega))
        have elr : (cl ++ List.replicate run (xs.getD 0 0)).length = cl.length + run := by rw [List.length_append, List.length_replicate]
        rw [elr] at hq
        refine ⟨rfl, fun c => ⟨by omega, ?_⟩, fun c => ?_⟩
        · rw [show (2 : Int32) = nI 2 from rfl, nI_leI (by omega) (by omega)] at c
          rw [ax3 0 (by omega)]
          refine zi_mono (c_addColumn (v := xs.getD 0 0) (n := run) l (d + 2) g (by omega) ac3) ?_
          rintro r I4 ⟨rfl, c1, c2⟩
          have z4 : zg m [7, 8, 9, 14, 17] [m + 6, m + 7, m + 9] I1 I4 := zg_trans z3 (zg_mono c2 (by simp) (by simp))
          have z4' : zg m [7, 8, 9, 14, 17] [m + 6, m + 7] I1 I4 := zg_trans (zg_mono z3' (by simp) (by simp)) (zg_mono c2 (by simp) (by simp))
          have h84 : I4 m 8 = 0 := by rw [c2.1 8 (by simp)]; exact h83
          have h74 : I4 m 7 = nI p' := by rw [c2.1 7 (by simp)]; exact h73
          have s14 : aL I4 m 17 (m + 7) (sl ++ [s]) := s1.keepg c2 (by simp) (by omega) (by simp)
          have h224 : I4 m 22 = nI ks := by rw [c2.1 22 (by simp)]; exact h223
          rw [h224, nI_1, nI_eq (by omega) (by omega)]
          refine ⟨rfl, fun c3 => ?_, fun c3 => ?_⟩
          · rw [if_pos c3] at hq
            refine r_Mod_readSymbols_186 l (d + 2) m _ _ _ _ _ _ _ g.1 ⟨fun _ => r_Mod_readSymbols_206 l (d + 2) m _ _ _ _ _ _ m (r_Mod_readSymbols_207 l (d + 2) m _ _ _ _ _ _ _ m g.1 g.1 (zi_mono (c_fi l (d + 1) g.1) ?_)), fun x => absurd rfl x⟩
            rintro r I5 ⟨rfl, (⟨h, _⟩ | ⟨_, rfl⟩)⟩
            · exact absurd rfl h
            · exact ⟨rfl, fun _ => r_Mod_readSymbols_239 l (d + 2) m _ _ _ _ _ _ (r_Mod_readSymbols_23 l (d + 2) m _ _ _ _ _ g.1 ⟨fun _ => r_Mod_readSymbols_242 l (d + 2) m _ _ _ _ _ (hq _ I5 ⟨rfl, h84, h74, k3, s14, c1⟩ z4), fun x => absurd rfl x⟩), fun x => absurd rfl x⟩
          · rw [if_neg c3, if_neg (show ¬ s < 2 by omega)] at hq
            refine r_Mod_readSymbols_186 l (d + 2) m _ _ _ _ _ _ _ g.1 ⟨fun x => absurd x (by decide), fun _ => ⟨fun c4 => ?_, fun c4 => ?_⟩⟩
            · rw [c1.1, elr, nI_eq (by omega) (by omega)] at c4
              rw [if_pos (show cl.length + run + 1 ≤ lim by omega)] at hq
              refine r_Mod_readSymbols_206 l (d + 2) m _ _ _ _ _ _ m (r_Mod_readSymbols_207 l (d + 2) m _ _ _ _ _ _ _ m g.1 g.1 (zi_mono (c_fi l (d + 1) g.1) ?_))
              rintro r I5 ⟨rfl, (⟨h, _⟩ | ⟨_, rfl⟩)⟩
              · exact absurd rfl h
              · refine ⟨rfl, fun x => absurd x (by decide), fun _ => ⟨fun x => absurd h84 x, fun _ => ?_⟩⟩
                have hk1 : s - 1 < xs.length := by omega
                rw [show (1 : Int32) = nI 1 from rfl, pk_sub (by omega)]
                refine zi_mono (c_toFront (k := s - 1) l (d + 2) g (by omega)) ?_
                rintro r I6 ⟨rfl, rfl⟩
                have ax5 : aA I5 (m + 9) xs := fun x hx => by rw [zg_cell c2 (by omega) (by simp)]; exact ax3 x hx
                have ax6 := mvF_aA ax5 hk1
                have z6 : zg m [] [m + 9] I5 (mvF I5 (m + 9) (s - 1)) := zg_mvF (by simp) (by omega)
                have c16 : aL (mvF I5 (m + 9) (s - 1)) m 14 (m + 6) (cl ++ List.replicate run (xs.getD 0 0)) := c1.keepg z6 (by simp) (by omega) (by simp)
                refine ⟨_, rfl, ?_⟩
                rw [ax5 _ hk1]
                refine zi_mono (c_addColumn (v := xs.getD (s - 1) 0) (n := 1) l (d + 2) g (by rw [elr]; omega) c16) ?_
                rintro r I7 ⟨rfl, d1, d2⟩
                have z7 : zg m [7, 8, 9, 14, 17] [m + 6, m + 7, m + 9] I1 I7 := zg_trans (zg_trans z4 (zg_mono z6 (by simp) (by simp))) (zg_mono d2 (by simp) (by simp))
                have z67 : zg m [14] [m + 6, m + 9] I5 I7 := zg_trans (zg_mono z6 (by simp) (by simp)) (zg_mono d2 (by simp) (by simp))
                refine ⟨rfl, r_Mod_readSymbols_239 l (d + 2) m _ _ _ _ _ _ ?_⟩
                have hx1 : (mv_to xs (s - 1)).length = ks := by rw [mv_len hk1]; exact hx
                refine ih (i + 1) p' 1 0 (mv_to xs (s - 1)) (cl ++ List.replicate run (xs.getD 0 0) ++ List.replicate 1 (xs.getD (s - 1) 0)) (sl ++ [s]) _ I7 (by omega) (by rw [List.length_append, List.length_singleton, hsi]) (a.keepg z7 (by simp) (by simp)) (by rw [z67.1 7 (by simp)]; exact h74) k3 (by rw [z67.1 8 (by simp)]; exact h84) (ap.keep z7 (by simp) (by simp)) (by rw [z67.1 22 (by simp)]; exact h224) (at'.keep z7 (by simp) (by simp)) (fun x hx => by rw [zg_cell d2 (by omega) (by simp)]; exact ax6 x hx) hx1 (fun w hw => hxb w (mv_mem hk1 hw)) (by omega) (by omega) d1 (by rw [List.length_append, elr, List.length_replicate]; omega) (s14.keepg z67 (by simp) (by omega) (by simp)) (by rw [List.length_append, List.length_append, elr, List.length_replicate, List.length_singleton]; omega) (fun r I8 y1 y2 => hq r I8 ?_ (zg_trans z7 y2))
                rw [List.replicate_zero, List.append_nil] at y1
                exact y1
            · rw [c1.1, elr, nI_eq (by omega) (by omega)] at c4
              rw [if_neg (show ¬ cl.length + run + 1 ≤ lim by omega)] at hq
              refine r_Mod_readSymbols_207 l (d + 2) m _ _ _ _ _ _ _ m g.1 g.1 (zi_mono (c_fi l (d + 1) g.1) ?_)
              rintro r I5 ⟨rfl, (⟨_, _, f1, f2, f3, f4⟩ | ⟨h, _⟩)⟩
              · have n5 : ¬ I5 m 8 = 0 := by rw [f1]; decide
                refine ⟨rfl, fun x => absurd x (by decide), fun _ => ⟨fun _ => stop I5 _ _ _ _ _ n5 (hq _ I5 ⟨⟨_, rfl⟩, f1, f2, by dsimp only; decide, p', k3, by rw [f3]; exact h74⟩ (zg_trans z4 (zg_mono f4 (by simp) (by simp)))), fun x => absurd x n5⟩⟩
              · exact absurd ⟨by decide, h84⟩ h
        · rw [show (2 : Int32) = nI 2 from rfl, nI_leI (by omega) (by omega)] at c
          have hs2 : s < 2 := by omega
          have hne : ¬ s = ks + 1 := by omega
          have hmb : dt * (s + 1) ≤ 130 := by
            have : s = 0 ∨ s = 1 := by omega
            rcases this with h | h <;> rw [h] <;> omega
          have hm : dt ≤ dt * (s + 1) := Nat.le_mul_of_pos_right dt (by omega)
          have er : nI run + nI dt * (nI s + 1) = nI (run + dt * (s + 1)) := by rw [nI_1, pk_mul, nI_add]
          have e2d : (2 : Int32) * nI dt = nI (2 * dt) := by rw [show (2 : Int32) = nI 2 from rfl, pk_mul]
          rw [if_neg hne, if_pos hs2] at hq
          rw [er, e2d, ac3.1, nI_add, nI_leI (by omega) (by omega)]
          refine ⟨fun c3 => ?_, fun c3 => ?_⟩
          · rw [if_pos (show cl.length + run + dt * (s + 1) ≤ lim by omega)] at hq
            refine r_Mod_readSymbols_145 l (d + 2) m _ _ _ _ _ _ _ m g.1 (zi_mono (c_fi l (d + 1) g.1) ?_)
            rintro r I5 ⟨rfl, (⟨h, _⟩ | ⟨_, rfl⟩)⟩
            · exact absurd rfl h
            · refine ⟨rfl, r_Mod_readSymbols_239 l (d + 2) m _ _ _ _ _ _ ?_⟩
              refine ih (i + 1) p' (2 * dt) (run + dt * (s + 1)) xs cl (sl ++ [s]) _ I5 (by omega) (by rw [List.length_append, List.length_singleton, hsi]) a3 h73 k3 h83 ap3 h223 at4 ax3 hx hxb (by omega) (by omega) ac3 (by omega) s1 (by rw [List.length_append, List.length_singleton]; omega) (fun r I8 y1 y2 => hq r I8 ?_ (zg_trans z3 y2))
              rw [List.append_assoc, List.replicate_append_replicate]
              exact y1
          · rw [if_neg (show ¬ cl.length + run + dt * (s + 1) ≤ lim by omega)] at hq
            refine r_Mod_readSymbols_145 l (d + 2) m _ _ _ _ _ _ _ m g.1 (zi_mono (c_fi l (d + 1) g.1) ?_)
            rintro r I5 ⟨rfl, (⟨_, _, f1, f2, f3, f4⟩ | ⟨h, _⟩)⟩
            · have n5 : ¬ I5 m 8 = 0 := by rw [f1]; decide
              exact ⟨rfl, stop I5 _ _ _ _ _ n5 (hq _ I5 ⟨⟨_, rfl⟩, f1, f2, by dsimp only; decide, p', k3, by rw [f3]; exact h73⟩ (zg_trans z3 (zg_mono f4 (by simp) (by simp))))⟩
            · exact absurd ⟨by decide, h83⟩ h
theorem c_mreadSymbols (l : Launch) (d : Nat) {I : zi_I} {T G lim : Nat} {xs : List Nat} {lns : List (List Nat)} {pk : Nat → Nat} (g : g_Mod K RJ m) (hT : T ≤ 4) (hG : G ≤ 63) (hk : xs.length ≤ 256) (hk0 : 0 < xs.length) (hxb : ∀ v ∈ xs, v < 256) (hlim : lim ≤ 64) (hpk : ∀ i, i < G → pk i < T) (a : a_In I m bs) (h7 : I m 7 = nI p) (hp : p ≤ 8 * bs.length) (h8 : I m 8 = 0) (ap : a_MP I m G pk) (ak : aL I m 22 (m + 9) xs) (at' : a_MRt I m (xs.length + 2) T lns) :
    zi_C l (zx_rm (d + 3) 0 0) M_Mod_readSymbols [.ref m, .int (nI lim)] K RJ I (fun r I2 => ms_post (rd_syms bs lns xs.length lim pk (8 * G) 0 xs [] 1 [] p) (8 * bs.length) m r I2 ∧ zg m [7, 8, 9, 14, 17] [m + 6, m + 7, m + 9] I I2) := by
  have z : zg m [7, 8, 9, 14, 17] [m + 6, m + 7, m + 9] I (zx_u2 (zx_u2 I m 17 0) m 14 0) := zg_trans (zg_fld (by simp)) (zg_fld (by simp))
  have z' : zg m [14, 17] [] I (zx_u2 (zx_u2 I m 17 0) m 14 0) := zg_trans (zg_fld (by simp)) (zg_fld (by simp))
  refine zi_of (by decide) (fun α => Nat.le_of_ble_eq_true rfl) (r_Mod_readSymbols_0 l (d + 2) m _ g.1 ?_)
  exact t_mss23 (bs := bs) (T := T) (G := G) (ks := xs.length) (lim := lim) (lns := lns) (pk := pk) l d g hT hG hk hk0 hlim hpk (8 * G) 0 p 1 0 xs [] [] _ _ (by omega) rfl (a.keepg z (by simp) (by simp)) (by rw [z'.1 7 (by simp)]; exact h7) hp (by rw [z'.1 8 (by simp)]; exact h8) (ap.keep z (by simp) (by simp)) (by rw [z'.1 22 (by simp)]; exact ak.1) (at'.keep z (by simp) (by simp)) (fun x hx => by rw [zg_cell z' (by omega) (by simp)]; exact ak.2 x hx) rfl hxb (by omega) (by simp) ⟨by rw [zx_u2_s]; rfl, fun i hi => absurd hi (Nat.not_lt_zero _)⟩ (by simp) ⟨by rw [zx_u2_k (by omega), zx_u2_s]; rfl, fun i hi => absurd hi (Nat.not_lt_zero _)⟩ (by simp) (fun r I3 y1 y2 => ⟨y1, zg_trans z y2⟩)
end MSY
