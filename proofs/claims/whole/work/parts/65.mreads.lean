/-! The reference reads maps, picks and tables. -/
def md_post {α : Type} (rd : rd_R α) (n8 m : Nat) (I2 : zi_I) (P : α → Prop) : Prop :=
  match rd with
  | .inl e => I2 m 8 = e.1 ∧ I2 m 9 = nI e.2 ∧ e.1 ≠ 0 ∧ ∃ p2, p2 ≤ n8 ∧ I2 m 7 = nI p2
  | .inr v => I2 m 8 = 0 ∧ I2 m 7 = nI v.2 ∧ v.2 ≤ n8 ∧ P v.1
section MR
variable {K : zx_Kt} {RJ : zx_RJ} {m p : Nat} {bs : List Nat}
theorem c_mt (l : Launch) (d : Nat) {I : zi_I} {k : Nat} {y : Int32} (g : g_Mod K RJ m) (a : a_In I m bs) (h7 : I m 7 = nI p) (hp : p ≤ 8 * bs.length) (h8 : I m 8 = 0) (hk : k ≤ 24) :
    zi_C l (zx_rm (d + 1) 0 0) M_Mod_take [.ref m, .int (nI k), .int y] K RJ I (fun r I2 => (∃ v, r = some (.int (nI v)) ∧ ((p + k ≤ 8 * bs.length ∧ v = bt_num bs p k ∧ I2 m 7 = nI (p + k) ∧ I2 m 8 = 0) ∨ (¬ p + k ≤ 8 * bs.length ∧ v = 0 ∧ I2 m 7 = nI p ∧ I2 m 8 = -2 ∧ I2 m 9 = y))) ∧ zg m [7, 8, 9] [] I I2) := by
  have hl := a.1
  refine zi_mono (c_take l d g a h7 (by omega) hk) ?_
  rintro r I2 (⟨_, h1, rfl, rfl⟩ | ⟨_, h1, rfl, rfl⟩ | ⟨h1, _⟩)
  · exact ⟨⟨_, rfl, Or.inl ⟨h1, rfl, zx_u2_s, by rw [zx_u2_k (by omega)]; exact h8⟩⟩, zg_fld (by simp)⟩
  · exact ⟨⟨0, rfl, Or.inr ⟨by omega, rfl, by rw [zx_u2_k (by omega), zx_u2_k (by omega)]; exact h7, by rw [zx_u2_k (by omega), zx_u2_s], zx_u2_s⟩⟩, zg_trans (zg_fld (by simp)) (zg_fld (by simp))⟩
  · exact absurd h8 h1
/-- failIf, by cases -/
theorem c_fi (l : Launch) (d : Nat) {I : zi_I} {b x y : Int32} (g : (K.2 m).1 = 6) :
    zi_C l (zx_rm (d + 1) 0 0) M_Mod_failIf [.ref m, .int b, .int x, .int y] K RJ I (fun r I2 => r = none ∧ ((b ≠ 0 ∧ I m 8 = 0 ∧ I2 m 8 = x ∧ I2 m 9 = y ∧ I2 m 7 = I m 7 ∧ zg m [8, 9] [] I I2) ∨ (¬ (b ≠ 0 ∧ I m 8 = 0) ∧ I2 = I))) := by
  refine zi_mono (c_failIf l d g) ?_
  rintro r I2 ⟨rfl, rfl⟩
  by_cases h : b ≠ 0 ∧ I m 8 = 0
  · rw [if_pos h]
    exact ⟨rfl, Or.inl ⟨h.1, h.2, by rw [zx_u2_k (by omega), zx_u2_s], zx_u2_s, by rw [zx_u2_k (by omega), zx_u2_k (by omega)], zg_trans (zg_fld (by simp)) (zg_fld (by simp))⟩⟩
  · rw [if_neg h]
    exact ⟨rfl, Or.inr ⟨h, rfl⟩⟩
theorem bit_test {v i : Nat} (hv : v < 2 ^ 31) (hi : i ≤ 15) : (nI v >>> (((15 : Int32) - nI i) &&& 31) &&& 1 = 1) ↔ v / 2 ^ (15 - i) % 2 = 1 := by
  rw [show (15 : Int32) = nI 15 from rfl, pk_sub hi, zb_shr hv (by omega), zb_mod2 (Nat.lt_of_le_of_lt (Nat.div_le_self _ _) (by omega)), show (1 : Int32) = nI 1 from rfl, nI_eq (by omega) (by omega)]
theorem t_rmm79 (l : Launch) (d : Nat) {Q : zi_Q} {i v : Nat} {x1 x2 : Int32} {u : Nat → Bool} (g : g_Mod K RJ m) (hi : i < 16) (hv : v < 2 ^ 16) :
    ∀ (j k : Nat) (I : zi_I), k + j = 16 → (∀ b, b < 256 → I (m + 8) b = if (if b / 16 = i ∧ b % 16 < k then mp_set u i v b else u b) = true then 1 else 0) →
      (∀ I2, a_Us I2 m (mp_set u i v) → zg m [] [m + 8] I I2 → zi_X l (zx_rm (d + 1) 0 0) M_Mod_readMaps K RJ Q 37 [(0, .ref m), (1, .int x1), (2, .int x2), (3, .int (nI i + 1))] [] I2) →
      zi_X l (zx_rm (d + 1) 0 0) M_Mod_readMaps K RJ Q 79 [(0, .ref m), (1, .int x1), (2, .int x2), (3, .int (nI i)), (4, .int (nI v)), (5, .int (nI k))] [] I := by
  intro j
  induction j with
  | zero =>
    intro k I hk hu q
    obtain rfl : k = 16 := by omega
    refine r_Mod_readMaps_79 l d m _ _ _ _ _ g.1 g.usedR (by omega) g.usedK ⟨fun _ => q I (fun b hb => ?_) zg_refl, fun c => absurd (by decide) c⟩
    rw [hu b hb]
    by_cases e : b / 16 = i
    · rw [if_pos (show b / 16 = i ∧ b % 16 < 16 by omega)]
    · rw [if_neg (show ¬ (b / 16 = i ∧ b % 16 < 16) from fun z => e z.1), mp_set_out e]
  | succ j ih =>
    intro k I hk hu q
    have ej : (16 : Int32) * nI i + nI k = nI (16 * i + k) := by rw [show (16 : Int32) = nI 16 from rfl, pk_mul, nI_add]
    have step : ∀ x : Int32, x = (if v / 2 ^ (15 - k) % 2 = 1 then 1 else 0) → zi_X l (zx_rm (d + 1) 0 0) M_Mod_readMaps K RJ Q 79 [(0, .ref m), (1, .int x1), (2, .int x2), (3, .int (nI i)), (4, .int (nI v)), (5, .int (nI k + 1))] [] (zx_u2 I (m + 8) (16 * i + k) x) := by
      intro x hx
      rw [nI_1]
      have z : zg m [] [m + 8] I (zx_u2 I (m + 8) (16 * i + k) x) := zg_arr (by simp) (by omega)
      refine ih (k + 1) _ (by omega) (fun b hb => ?_) (fun I3 y1 y2 => q I3 y1 (zg_trans z y2))
      by_cases e : b = 16 * i + k
      · rw [e, zx_u2_s, if_pos (show (16 * i + k) / 16 = i ∧ (16 * i + k) % 16 < k + 1 by omega), mp_set_in (by omega), hx]
        by_cases h : v / 2 ^ (15 - k) % 2 = 1
        · rw [if_pos h, if_pos (by rw [decide_eq_true_iff]; exact h)]
        · rw [if_neg h, if_neg (by rw [decide_eq_true_iff]; exact h)]
      · rw [zx_u2_k e, hu b hb]
        by_cases h : b / 16 = i ∧ b % 16 < k
        · rw [if_pos h, if_pos (show b / 16 = i ∧ b % 16 < k + 1 by omega)]
        · rw [if_neg h, if_neg (show ¬ (b / 16 = i ∧ b % 16 < k + 1) by omega)]
    refine r_Mod_readMaps_79 l d m _ _ _ _ _ g.1 g.usedR (by omega) g.usedK ⟨fun c => ?_, fun _ => ⟨fun c => ⟨_, ej, by omega, step 0 ?_⟩, fun c => ⟨_, ej, by omega, step 1 ?_⟩⟩⟩
    · rw [show (16 : Int32) = nI 16 from rfl, nI_leI (by omega) (by omega)] at c
      omega
    · rw [bit_test (by omega) (by omega)] at c
      rw [if_neg c]
    · rw [bit_test (by omega) (by omega)] at c
      rw [if_pos c]
/-- where a fault is met, it stays -/
theorem t_rmmF (l : Launch) (d : Nat) {Q : zi_Q} {x1 x2 x3 : Int32} {u : Nat → Bool} {I : zi_I} (g : g_Mod K RJ m) (hu : a_Us I m u) (h8 : ¬ I m 8 = 0)
    (q : ∀ I2, zg m [22] [m + 9] I I2 → Q none I2) :
    zi_X l (zx_rm (d + 2) 0 0) M_Mod_readMaps K RJ Q 37 [(0, .ref m), (1, .int x1), (2, .int x2), (3, .int x3)] [] I := by
  have fin : zi_C l (zx_rm (d + 1) 0 0) M_Mod_listUsed [.ref m] K RJ I (fun r I2 => r = none ∧ ((¬ (I2 m 22) = 0) → zi_C l (zx_rm (d + 1) 0 0) M_Mod_failIf [.ref m, .int 0, .int ((-5)), .int x1] K RJ I2 (fun r I3 => r = none ∧ Q none I3)) ∧ (((I2 m 22) = 0) → zi_C l (zx_rm (d + 1) 0 0) M_Mod_failIf [.ref m, .int 1, .int ((-5)), .int x1] K RJ I2 (fun r I4 => r = none ∧ Q none I4))) := by
    refine zi_mono (c_listUsed l (d + 1) g hu) ?_
    rintro r I2 ⟨rfl, v1, v2⟩
    have h82 : ¬ I2 m 8 = 0 := by rw [v2.1 8 (by simp)]; exact h8
    have one : ∀ y, zi_C l (zx_rm (d + 1) 0 0) M_Mod_failIf [.ref m, .int y, .int ((-5)), .int x1] K RJ I2 (fun r I3 => r = none ∧ Q none I3) := fun y => by
      refine zi_mono (c_fi l d g.1) ?_
      rintro r I3 ⟨rfl, (⟨_, h, _⟩ | ⟨_, rfl⟩)⟩
      · exact absurd h h82
      · exact ⟨rfl, q I3 v2⟩
    exact ⟨rfl, fun _ => one 0, fun _ => one 1⟩
  exact r_Mod_readMaps_37 l (d + 1) m _ _ _ g.1 ⟨fun _ => fin, fun _ => ⟨fun _ => fin, fun c => absurd c h8⟩⟩
theorem t_rmm37 (l : Launch) (d : Nat) {Q : zi_Q} {used : Nat} (g : g_Mod K RJ m) (hus : used < 2 ^ 16) :
    ∀ (j i p bg : Nat) (u : Nat → Bool) (I : zi_I), i + j = 16 → a_In I m bs → I m 7 = nI p → p ≤ 8 * bs.length → I m 8 = 0 → a_Us I m u →
      (∀ I2, md_post (rd_mapL bs used j i u p bg) (8 * bs.length) m I2 (fun u => a_Us I2 m u ∧ aL I2 m 22 (m + 9) (kf u 256)) → zg m [7, 8, 9, 22] [m + 8, m + 9] I I2 → Q none I2) →
      zi_X l (zx_rm (d + 2) 0 0) M_Mod_readMaps K RJ Q 37 [(0, .ref m), (1, .int (nI bg)), (2, .int (nI used)), (3, .int (nI i))] [] I := by
  intro j
  induction j with
  | zero =>
    intro i p bg u I hi a h7 hp h8 hu q
    obtain rfl : i = 16 := by omega
    have hl := kf_le u 256
    refine r_Mod_readMaps_37 l (d + 1) m _ _ _ g.1 ⟨fun _ => zi_mono (c_listUsed l (d + 1) g hu) ?_, fun c => absurd (by decide) c⟩
    rintro r I2 ⟨rfl, v1, v2⟩
    have h82 : I2 m 8 = 0 := by rw [v2.1 8 (by simp)]; exact h8
    have h72 : I2 m 7 = nI p := by rw [v2.1 7 (by simp)]; exact h7
    refine ⟨rfl, fun c => zi_mono (c_fi l d g.1) ?_, fun c => zi_mono (c_fi l d g.1) ?_⟩
    · rw [v1.1, show (0 : Int32) = nI 0 from rfl, nI_eq (by omega) (by omega)] at c
      rintro r I3 ⟨rfl, (⟨h, _⟩ | ⟨_, rfl⟩)⟩
      · exact absurd rfl h
      · refine ⟨rfl, q I3 ?_ (zg_mono v2 (by simp) (by simp))⟩
        unfold rd_mapL md_post
        rw [if_neg c]
        exact ⟨h82, h72, hp, hu.keep v2 (by simp), v1⟩
    · rw [v1.1, show (0 : Int32) = nI 0 from rfl, nI_eq (by omega) (by omega)] at c
      rintro r I3 ⟨rfl, (⟨_, _, h1, h2, h3, h4⟩ | ⟨h, _⟩)⟩
      · refine ⟨rfl, q I3 ?_ (zg_trans (zg_mono v2 (by simp) (by simp)) (zg_mono h4 (by simp) (by simp)))⟩
        unfold rd_mapL md_post
        rw [if_pos c]
        exact ⟨h1, h2, by dsimp only; decide, p, hp, by rw [h3]; exact h72⟩
      · exact absurd ⟨by decide, h82⟩ h
  | succ j ih =>
    intro i p bg u I hi a h7 hp h8 hu q
    refine r_Mod_readMaps_37 l (d + 1) m _ _ _ g.1 ⟨fun c => ?_, fun _ => ⟨fun c => absurd h8 c, fun _ => ⟨fun c => ?_, fun c => ?_⟩⟩⟩
    · rw [show (16 : Int32) = nI 16 from rfl, nI_leI (by omega) (by omega)] at c
      omega
    · rw [bit_test (by omega) (by omega)] at c
      rw [nI_1]
      refine ih (i + 1) p bg u I (by omega) a h7 hp h8 hu (fun I2 y1 y2 => q I2 ?_ y2)
      unfold rd_mapL
      rw [if_neg c]
      exact y1
    · rw [bit_test (by omega) (by omega)] at c
      rw [h7]
      refine zi_mono (c_mt (k := 16) l d g a h7 hp h8 (by decide)) ?_
      rintro r I2 ⟨⟨v, rfl, hv⟩, z⟩
      have hv16 : v < 2 ^ 16 := by
        rcases hv with ⟨_, rfl, _⟩ | ⟨_, rfl, _⟩
        · exact bt_num_lt bs p 16
        · decide
      have hu2 : a_Us I2 m u := hu.keep z (by simp)
      refine ⟨_, rfl, t_rmm79 (i := i) (v := v) (u := u) l (d + 1) g (by omega) hv16 16 0 I2 (by omega) (fun b hb => ?_) (fun I3 w1 w2 => ?_)⟩
      · rw [if_neg (show ¬ (b / 16 = i ∧ b % 16 < 0) by omega)]
        exact hu2 b hb
      · have z3 : zg m [7, 8, 9, 22] [m + 8, m + 9] I I3 := zg_trans (zg_mono z (by simp) (by simp)) (zg_mono w2 (by simp) (by simp))
        rcases hv with ⟨e1, rfl, e3, e4⟩ | ⟨e1, rfl, e3, e4, e5⟩
        · rw [nI_1]
          refine ih (i + 1) (p + 16) p _ I3 (by omega) (a.keepg z3 (by simp) (by simp)) (by rw [w2.1 7 (by simp)]; exact e3) e1 (by rw [w2.1 8 (by simp)]; exact e4) w1 (fun I4 y1 y2 => q I4 ?_ (zg_trans z3 y2))
          unfold rd_mapL
          rw [if_pos c, if_pos e1]
          exact y1
        · refine t_rmmF l d g w1 (by rw [w2.1 8 (by simp), e4]; decide) (fun I4 y2 => q I4 ?_ (zg_trans z3 (zg_mono y2 (by simp) (by simp))))
          unfold rd_mapL md_post
          rw [if_pos c, if_neg e1]
          exact ⟨by rw [y2.1 8 (by simp), w2.1 8 (by simp)]; exact e4, by rw [y2.1 9 (by simp), w2.1 9 (by simp)]; exact e5, by dsimp only; decide, p, hp, by rw [y2.1 7 (by simp), w2.1 7 (by simp)]; exact e3⟩
theorem t_rmm2 (l : Launch) (d : Nat) {Q : zi_Q} (g : g_Mod K RJ m) :
    ∀ (j i : Nat) (I : zi_I), i + j = 256 → (∀ v, v < i → I (m + 8) v = 0) →
      (∀ I2, a_Us I2 m (fun _ => false) → zg m [] [m + 8] I I2 → zi_C l (zx_rm d 0 0) M_Mod_take [.ref m, .int 16, .int (I2 m 7)] K RJ I2 (fun r I3 => ∃ v3, r = some (.int v3) ∧ zi_X l (zx_rm (d + 1) 0 0) M_Mod_readMaps K RJ Q 37 [(0, .ref m), (1, .int (I2 m 7)), (2, .int v3), (3, .int 0)] [] I3)) →
      zi_X l (zx_rm (d + 1) 0 0) M_Mod_readMaps K RJ Q 2 [(0, .ref m), (1, .int (nI i))] [] I := by
  intro j
  induction j with
  | zero =>
    intro i I hi hu q
    obtain rfl : i = 256 := by omega
    refine r_Mod_readMaps_2 l d m _ g.1 g.usedR (by omega) g.usedK ⟨fun _ => q I (fun b hb => ?_) zg_refl, fun c => absurd (by decide) c⟩
    rw [hu b hb, if_neg (show ¬ (false = true) by decide)]
  | succ j ih =>
    intro i I hi hu q
    refine r_Mod_readMaps_2 l d m _ g.1 g.usedR (by omega) g.usedK ⟨fun c => ?_, fun _ => ⟨i, rfl, by omega, ?_⟩⟩
    · rw [show (256 : Int32) = nI 256 from rfl, nI_leI (by omega) (by omega)] at c
      omega
    · rw [nI_1]
      have z : zg m [] [m + 8] I (zx_u2 I (m + 8) i 0) := zg_arr (by simp) (by omega)
      refine ih (i + 1) _ (by omega) (fun v hv => ?_) (fun I3 y1 y2 => q I3 y1 (zg_trans z y2))
      by_cases e : v = i
      · rw [e, zx_u2_s]
      · rw [zx_u2_k e]
        exact hu v (by omega)
theorem c_readMaps (l : Launch) (d : Nat) {I : zi_I} (g : g_Mod K RJ m) (a : a_In I m bs) (h7 : I m 7 = nI p) (hp : p ≤ 8 * bs.length) (h8 : I m 8 = 0) :
    zi_C l (zx_rm (d + 2) 0 0) M_Mod_readMaps [.ref m] K RJ I (fun r I2 => r = none ∧ md_post (rd_maps bs p) (8 * bs.length) m I2 (fun u => a_Us I2 m u ∧ aL I2 m 22 (m + 9) (kf u 256)) ∧ zg m [7, 8, 9, 22] [m + 8, m + 9] I I2) := by
  refine zi_of (by decide) (fun α => Nat.le_of_ble_eq_true rfl) (r_Mod_readMaps_0 l (d + 1) m (t_rmm2 l (d + 1) g 256 0 I (by omega) (fun _ h => absurd h (by omega)) (fun I2 w1 w2 => ?_)))
  have h72 : I2 m 7 = nI p := by rw [w2.1 7 (by simp)]; exact h7
  have h82 : I2 m 8 = 0 := by rw [w2.1 8 (by simp)]; exact h8
  have a2 := a.keepg w2 (by simp) (by simp)
  rw [h72]
  refine zi_mono (c_mt (k := 16) l d g a2 h72 hp h82 (by decide)) ?_
  rintro r I3 ⟨⟨v, rfl, hv⟩, z⟩
  have z3 : zg m [7, 8, 9, 22] [m + 8, m + 9] I I3 := zg_trans (zg_mono w2 (by simp) (by simp)) (zg_mono z (by simp) (by simp))
  have hu3 : a_Us I3 m (fun _ => false) := w1.keep z (by simp)
  refine ⟨_, rfl, ?_⟩
  rcases hv with ⟨e1, rfl, e3, e4⟩ | ⟨e1, rfl, e3, e4, e5⟩
  · refine t_rmm37 (bs := bs) (used := bt_num bs p 16) l d g (bt_num_lt bs p 16) 16 0 (p + 16) p (fun _ => false) I3 (by omega) (a.keepg z3 (by simp) (by simp)) e3 e1 e4 hu3 (fun I4 y1 y2 => ⟨rfl, ?_, zg_trans z3 y2⟩)
    unfold rd_maps
    rw [if_pos e1]
    exact y1
  · refine t_rmmF l d g hu3 (by rw [e4]; decide) (fun I4 y2 => ⟨rfl, ?_, zg_trans z3 (zg_mono y2 (by simp) (by simp))⟩)
    unfold rd_maps md_post
    rw [if_neg e1]
    exact ⟨by rw [y2.1 8 (by simp)]; exact e4, by rw [y2.1 9 (by simp)]; exact e5, by dsimp only; decide, p, hp, by rw [y2.1 7 (by simp)]; exact e3⟩
end MR
