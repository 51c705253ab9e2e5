/-! The class picks tables: all rounds. -/
def pt_S (o b : Nat) : List Nat := [o + 1, o + 2, o + 3, o + 4, o + 5, o + 6, b + 6, b + 7, b + 8, b + 9, b + 10]
section PT
variable {K : zx_Kt} {RJ : zx_RJ} {o b y ks G T : Nat} {sy : Nat → Nat}
theorem t_pt35 (l : Launch) (d : Nat) {Q : zi_Q} (gb : g_Block K RJ b) (hG : G ≤ 63) (hT : 0 < T) (hT4 : T ≤ 4) :
    ∀ (j g : Nat) (I : zi_I), g + j = G → I b 11 = nI G → I b 9 = nI T → (∀ i, i < g → I (b + 10) i = nI (i % T)) →
      (∀ I2, (∀ i, i < G → I2 (b + 10) i = nI (i % T)) → zf [b + 10] I I2 → zi_X l (zx_rm (d + 1) 0 0) M_Picker_pickTables K RJ Q 63 [(0, .ref o), (1, .ref b), (2, .int 0)] [] I2) →
      zi_X l (zx_rm (d + 1) 0 0) M_Picker_pickTables K RJ Q 35 [(0, .ref o), (1, .ref b), (2, .int (nI g))] [] I := by
  intro j
  induction j with
  | zero =>
    intro g I hg h11 h9 hp q
    obtain rfl : g = G := by omega
    refine r_Picker_pickTables_35 l d o b _ gb.k gb.pi.1 (by omega) gb.pi.2 ⟨fun _ => q I hp zf_refl, fun c => ?_⟩
    rw [h11, nI_leI (by omega) (by omega)] at c
    omega
  | succ j ih =>
    intro g I hg h11 h9 hp q
    refine r_Picker_pickTables_35 l d o b _ gb.k gb.pi.1 (by omega) gb.pi.2 ⟨fun c => ?_, fun _ => ⟨fun c => ?_, g, rfl, by omega, ?_⟩⟩
    · rw [h11, nI_leI (by omega) (by omega)] at c
      omega
    · rw [h9, show (0 : Int32) = nI 0 from rfl, nI_eq (by omega) (by omega)] at c
      omega
    · have em : nI g - nI g / I b 9 * I b 9 = nI (g % T) := by
        rw [h9]
        exact pk_rem (d := T) (by omega) (by omega) (by omega)
      rw [em, nI_1]
      have z : zf [b + 10] I (zx_u2 I (b + 10) g (nI (g % T))) := zf_u2 (by simp)
      refine ih (g + 1) _ (by omega) (by rw [zf_at z (by simp)]; exact h11) (by rw [zf_at z (by simp)]; exact h9) (fun i hi => ?_) (fun I3 y1 y2 => q I3 y1 (zf_trans z y2))
      by_cases e : i = g
      · rw [e, zx_u2_s]
      · rw [zx_u2_k e]
        exact hp i (by omega)
theorem t_pt70 (l : Launch) (d : Nat) {Q : zi_Q} {r : Nat} {x2 : Int32} (g : g_Picker K RJ o) (gb : g_Block K RJ b) (hd : o + 6 < b) (hy : y ≤ 65) (hk : ks ≤ 64) (hs : ∀ k, k < y → sy k < ks + 2) (hG : G ≤ 63) (hyG : y ≤ 8 * G) (hT : 0 < T) (hT4 : T ≤ 4) :
    ∀ (j t : Nat) (I : zi_I), t + j = T → a_Sy I b y sy → I b 5 = nI ks → I b 9 = nI T → a_Pk I b G (pc_pk sy y (ks + 2) T r) → (∀ t', t' < t → ∀ s, s < ks + 2 → I (b + 6 + t') s = nI (pc_ln sy y (ks + 2) T r t' s)) →
      (∀ I2, (∀ t', t' < T → ∀ s, s < ks + 2 → I2 (b + 6 + t') s = nI (pc_ln sy y (ks + 2) T r t' s)) → zf [o + 1, o + 2, o + 3, o + 4, o + 5, o + 6, b + 6, b + 7, b + 8, b + 9] I I2 → zi_X l (zx_rm (d + 3) 0 0) M_Picker_pickTables K RJ Q 113 [(0, .ref o), (1, .ref b), (2, .int x2), (3, .int 0)] [] I2) →
      zi_X l (zx_rm (d + 3) 0 0) M_Picker_pickTables K RJ Q 70 [(0, .ref o), (1, .ref b), (2, .int x2), (3, .int (nI t))] [] I := by
  intro j
  induction j with
  | zero =>
    intro t I ht a1 h5 h9 a2 hl q
    obtain rfl : t = T := by omega
    refine r_Picker_pickTables_70 l (d + 2) o b _ _ gb.k g.1 g.2.1 (by omega) g.2.2.2.1 (by omega) gb.le.1 (by omega) gb.le.2 g.2.2.1.1 ⟨fun _ => q I hl zf_refl, fun c => ?_⟩
    rw [h9, nI_leI (by omega) (by omega)] at c
    omega
  | succ j ih =>
    intro t I ht a1 h5 h9 a2 hl q
    refine r_Picker_pickTables_70 l (d + 2) o b _ _ gb.k g.1 g.2.1 (by omega) g.2.2.2.1 (by omega) gb.le.1 (by omega) gb.le.2 g.2.2.1.1 ⟨fun c => ?_, fun _ => zi_mono (c_weigh (t := t) (y := y) (G := G) (sy := sy) (pk := pc_pk sy y (ks + 2) T r) l (d + 1) g gb hd hy (fun k h => by have := hs k h; omega) hG hyG (fun gg _ => by have := pc_pk_lt (sy := sy) (y := y) (n := ks + 2) hT r gg; omega) (by omega) a1 a2) ?_⟩
    · rw [h9, nI_leI (by omega) (by omega)] at c
      omega
    · rintro r1 I2 ⟨rfl, w1, w2⟩
      have a1' := a1.keep w2 (by simp; omega) (by simp; omega)
      have a2' := a2.keep w2 (by simp; omega) (by simp; omega)
      have h5' : I2 b 5 = nI ks := by rw [zf_at w2 (by simp; omega)]; exact h5
      have h9' : I2 b 9 = nI T := by rw [zf_at w2 (by simp; omega)]; exact h9
      refine ⟨rfl, zi_mono (c_symbolKinds l (d + 2) gb h5') ?_⟩
      rintro r2 I3 ⟨rfl, rfl⟩
      refine ⟨_, rfl, t, rfl, by omega, b + 6 + t, (gb.ls (by omega)).1, by omega, zi_mono (c_findLengths (n := ks + 2) (w0 := pc_w sy (pc_pk sy y (ks + 2) T r) y t) l d g.2.2.1 g.2.2.2.2 (gb.ls (by omega)).2 (by simp only [List.mem_cons, List.not_mem_nil, or_false, not_or]; omega) (by simp only [List.mem_cons, List.not_mem_nil, or_false, not_or]; omega) (by omega) (by omega) rfl (Nat.lt_of_le_of_lt (pc_w_sum _ _ _ _ _) (by omega)) (fun k hk => w1 k (by omega))) ?_⟩
      rintro r3 I4 ⟨rfl, v1, v2⟩
      rw [nI_1]
      have zz : zf [o + 1, o + 2, o + 3, o + 4, o + 5, o + 6, b + 6, b + 7, b + 8, b + 9] I I4 := zf_trans (zf_mono w2 (fun q hq => by simp only [List.mem_cons, List.not_mem_nil, or_false] at hq ⊢; omega)) (zf_mono v2 (fun q hq => by simp only [List.mem_cons, List.not_mem_nil, or_false] at hq ⊢; omega))
      have b1 : b ∉ [o + 1, o + 2, o + 3, o + 4, o + 5, o + 6, b + 6, b + 7, b + 8, b + 9] := by simp only [List.mem_cons, List.not_mem_nil, or_false, not_or]; omega
      have b2 : b + 4 ∉ [o + 1, o + 2, o + 3, o + 4, o + 5, o + 6, b + 6, b + 7, b + 8, b + 9] := by simp only [List.mem_cons, List.not_mem_nil, or_false, not_or]; omega
      have b3 : b + 10 ∉ [o + 1, o + 2, o + 3, o + 4, o + 5, o + 6, b + 6, b + 7, b + 8, b + 9] := by simp only [List.mem_cons, List.not_mem_nil, or_false, not_or]; omega
      refine ⟨rfl, ih (t + 1) I4 (by omega) (a1.keep zz b1 b2) (by rw [zf_at zz b1]; exact h5) (by rw [zf_at zz b1]; exact h9) (a2.keep zz b1 b3) (fun t' ht' s hs' => ?_) (fun I5 y1 y2 => q I5 y1 (zf_trans zz y2))⟩
      by_cases e : t' = t
      · rw [e, v1, if_pos hs']
        rfl
      · rw [zf_at v2 (by simp only [List.mem_cons, List.not_mem_nil, or_false, not_or]; omega), zf_at w2 (by simp only [List.mem_cons, List.not_mem_nil, or_false, not_or]; omega)]
        exact hl t' (by omega) s hs'
theorem t_pt113 (l : Launch) (d : Nat) {Q : zi_Q} {r : Nat} {x2 : Int32} (g0 : (K.2 o).1 = 15) (gb : g_Block K RJ b) (hy : y ≤ 65) (hk : ks ≤ 64) (hs : ∀ k, k < y → sy k < ks + 2) (hG : G ≤ 63) (hT : 0 < T) (hT4 : T ≤ 4) :
    ∀ (j g : Nat) (I : zi_I), g + j = G → a_Sy I b y sy → I b 11 = nI G → I b 9 = nI T → (∀ t', t' < T → ∀ s, s < ks + 2 → I (b + 6 + t') s = nI (pc_ln sy y (ks + 2) T r t' s)) → (∀ i, i < g → I (b + 10) i = nI (pc_pk sy y (ks + 2) T (r + 1) i)) →
      (∀ I2, (∀ i, i < G → I2 (b + 10) i = nI (pc_pk sy y (ks + 2) T (r + 1) i)) → zf [b + 10] I I2 → zi_X l (zx_rm (d + 3) 0 0) M_Picker_pickTables K RJ Q 63 [(0, .ref o), (1, .ref b), (2, .int (x2 + 1))] [] I2) →
      zi_X l (zx_rm (d + 3) 0 0) M_Picker_pickTables K RJ Q 113 [(0, .ref o), (1, .ref b), (2, .int x2), (3, .int (nI g))] [] I := by
  intro j
  induction j with
  | zero =>
    intro g I hg a1 h11 h9 hl hp q
    obtain rfl : g = G := by omega
    refine r_Picker_pickTables_113 l (d + 2) o b _ _ gb.k gb.pi.1 (by omega) g0 gb.pi.2 ⟨fun _ => q I hp zf_refl, fun c => ?_⟩
    rw [h11, nI_leI (by omega) (by omega)] at c
    omega
  | succ j ih =>
    intro g I hg a1 h11 h9 hl hp q
    refine r_Picker_pickTables_113 l (d + 2) o b _ _ gb.k gb.pi.1 (by omega) g0 gb.pi.2 ⟨fun c => ?_, fun _ => zi_mono (c_cheapest (T := T) (gr := g) (y := y) (n := ks + 2) (sy := sy) (fs := pc_ln sy y (ks + 2) T r) l d g0 gb hT hT4 (by omega) hy (by omega) hs a1 h9 hl (fun t ht s hs' => ?_)) ?_⟩
    · rw [h11, nI_leI (by omega) (by omega)] at c
      omega
    · have := pc_ln_le (sy := sy) (y := y) (n := ks + 2) (T := T) (r := r) (t := t) (s := s) (by omega) (by omega) (by omega) hs'
      omega
    · rintro r1 I2 ⟨rfl, rfl⟩
      refine ⟨_, rfl, g, rfl, by omega, ?_⟩
      rw [nI_1]
      have z : zf [b + 10] I2 (zx_u2 I2 (b + 10) g (nI (pc_best (fun t => pc_cost (pc_ln sy y (ks + 2) T r t) sy y g) (T - 1)))) := zf_u2 (by simp)
      refine ih (g + 1) _ (by omega) (a1.keep z (by simp) (by simp)) (by rw [zf_at z (by simp)]; exact h11) (by rw [zf_at z (by simp)]; exact h9) (fun t ht s hs' => by rw [zf_at z (by simp only [List.mem_cons, List.not_mem_nil, or_false]; omega)]; exact hl t ht s hs') (fun i hi => ?_) (fun I3 y1 y2 => q I3 y1 (zf_trans z y2))
      by_cases e : i = g
      · rw [e, zx_u2_s]
        rfl
      · rw [zx_u2_k e]
        exact hp i (by omega)
theorem t_pt63 (l : Launch) (d : Nat) {Q : zi_Q} (g : g_Picker K RJ o) (gb : g_Block K RJ b) (hd : o + 6 < b) (hy : y ≤ 65) (hk : ks ≤ 64) (hs : ∀ k, k < y → sy k < ks + 2) (hG : G ≤ 63) (hyG : y ≤ 8 * G) (hT : 0 < T) (hT4 : T ≤ 4) :
    ∀ (j r : Nat) (I : zi_I), r + j = 3 → a_Sy I b y sy → I b 5 = nI ks → I b 9 = nI T → a_Pk I b G (pc_pk sy y (ks + 2) T r) → (0 < r → ∀ t', t' < T → ∀ s, s < ks + 2 → I (b + 6 + t') s = nI (pc_ln sy y (ks + 2) T (r - 1) t' s)) →
      (∀ I2, a_Pk I2 b G (pc_pk sy y (ks + 2) T 3) → (∀ t', t' < T → ∀ s, s < ks + 2 → I2 (b + 6 + t') s = nI (pc_ln sy y (ks + 2) T 2 t' s)) → zf (pt_S o b) I I2 → Q none I2) →
      zi_X l (zx_rm (d + 3) 0 0) M_Picker_pickTables K RJ Q 63 [(0, .ref o), (1, .ref b), (2, .int (nI r))] [] I := by
  intro j
  induction j with
  | zero =>
    intro r I hr a1 h5 h9 a2 hl q
    obtain rfl : r = 3 := by omega
    refine r_Picker_pickTables_63 l (d + 2) o b _ ⟨fun _ => q I a2 (hl (by omega)) zf_refl, fun c => ?_⟩
    rw [show (3 : Int32) = nI 3 from rfl, nI_leI (by omega) (by omega)] at c
    omega
  | succ j ih =>
    intro r I hr a1 h5 h9 a2 hl q
    refine r_Picker_pickTables_63 l (d + 2) o b _ ⟨fun c => ?_, fun _ => ?_⟩
    · rw [show (3 : Int32) = nI 3 from rfl, nI_leI (by omega) (by omega)] at c
      omega
    · refine t_pt70 (r := r) (G := G) (T := T) (y := y) (ks := ks) (sy := sy) l d g gb hd hy hk hs hG hyG hT hT4 T 0 I (by omega) a1 h5 h9 a2 (fun _ h => absurd h (by omega)) (fun I2 w1 w2 => ?_)
      have b1 : b ∉ [o + 1, o + 2, o + 3, o + 4, o + 5, o + 6, b + 6, b + 7, b + 8, b + 9] := by simp only [List.mem_cons, List.not_mem_nil, or_false, not_or]; omega
      have b2 : b + 4 ∉ [o + 1, o + 2, o + 3, o + 4, o + 5, o + 6, b + 6, b + 7, b + 8, b + 9] := by simp only [List.mem_cons, List.not_mem_nil, or_false, not_or]; omega
      refine t_pt113 (r := r) (G := G) (T := T) (y := y) (ks := ks) (sy := sy) l d g.1 gb hy hk hs hG hT hT4 G 0 I2 (by omega) (a1.keep w2 b1 b2) (by rw [zf_at w2 b1]; exact a2.1) (by rw [zf_at w2 b1]; exact h9) w1 (fun _ h => absurd h (by omega)) (fun I3 v1 v2 => ?_)
      have z2 : zf (pt_S o b) I I3 := zf_trans (zf_mono w2 (fun q hq => by unfold pt_S; simp only [List.mem_cons, List.not_mem_nil, or_false] at hq ⊢; omega)) (zf_mono v2 (fun q hq => by unfold pt_S; simp only [List.mem_cons, List.not_mem_nil, or_false] at hq ⊢; omega))
      have b3 : b ∉ pt_S o b := by unfold pt_S; simp only [List.mem_cons, List.not_mem_nil, or_false, not_or]; omega
      have b4 : b + 4 ∉ pt_S o b := by unfold pt_S; simp only [List.mem_cons, List.not_mem_nil, or_false, not_or]; omega
      rw [nI_1]
      refine ih (r + 1) I3 (by omega) (a1.keep z2 b3 b4) (by rw [zf_at z2 b3]; exact h5) (by rw [zf_at z2 b3]; exact h9) ⟨by rw [zf_at z2 b3]; exact a2.1, v1⟩ (fun _ t ht s hs' => ?_) (fun I4 u1 u2 u3 => q I4 u1 u2 (zf_trans z2 u3))
      rw [zf_at v2 (by simp only [List.mem_cons, List.not_mem_nil, or_false]; omega)]
      exact w1 t ht s hs'
theorem c_pickTables (l : Launch) (d : Nat) {I : zi_I} (g : g_Picker K RJ o) (gb : g_Block K RJ b) (hd : o + 6 < b) (hy : y ≤ 65) (hk : ks ≤ 64) (hs : ∀ k, k < y → sy k < ks + 2) (a1 : a_Sy I b y sy) (h5 : I b 5 = nI ks) :
    zi_C l (zx_rm (d + 3) 0 0) M_Picker_pickTables [.ref o, .ref b] K RJ I (fun r I2 => r = none ∧ I2 b 9 = nI (pc_T ((y + 7) / 8)) ∧ a_Pk I2 b ((y + 7) / 8) (pc_pk sy y (ks + 2) (pc_T ((y + 7) / 8)) 3) ∧ (∀ t, t < pc_T ((y + 7) / 8) → ∀ s, s < ks + 2 → I2 (b + 6 + t) s = nI (pc_ln sy y (ks + 2) (pc_T ((y + 7) / 8)) 2 t s)) ∧ zg b [9, 11] (pt_S o b) I I2) := by
  have e : (I b 7 + 8 - 1) / 8 = nI ((y + 7) / 8) := by
    rw [a1.1, show nI y + 8 = nI (y + 7 + 1) from nI_add y 8, nI_pred]
    exact pk_div (d := 8) (by omega) (by omega) (by omega)
  have main : ∀ T, 0 < T → T ≤ 4 → T = pc_T ((y + 7) / 8) → zi_X l (zx_rm (d + 3) 0 0) M_Picker_pickTables K RJ (fun r I2 => r = none ∧ I2 b 9 = nI (pc_T ((y + 7) / 8)) ∧ a_Pk I2 b ((y + 7) / 8) (pc_pk sy y (ks + 2) (pc_T ((y + 7) / 8)) 3) ∧ (∀ t, t < pc_T ((y + 7) / 8) → ∀ s, s < ks + 2 → I2 (b + 6 + t) s = nI (pc_ln sy y (ks + 2) (pc_T ((y + 7) / 8)) 2 t s)) ∧ zg b [9, 11] (pt_S o b) I I2) 35 [(0, .ref o), (1, .ref b), (2, .int (nI 0))] [] (zx_u2 (zx_u2 I b 11 (nI ((y + 7) / 8))) b 9 (nI T)) := by
    intro T hT hT4 eT
    have z0 : zg b [9, 11] (pt_S o b) I (zx_u2 (zx_u2 I b 11 (nI ((y + 7) / 8))) b 9 (nI T)) := zg_trans (zg_fld (by simp)) (zg_fld (by simp))
    refine t_pt35 (G := (y + 7) / 8) (T := T) l (d + 2) gb (by omega) hT hT4 ((y + 7) / 8) 0 _ (by omega) (by rw [zx_u2_k (by omega), zx_u2_s]) zx_u2_s (fun _ h => absurd h (by omega)) (fun I2 v1 v2 => ?_)
    have z1 : zg b [9, 11] (pt_S o b) I I2 := zg_trans z0 ⟨fun j _ => zf_at v2 (by simp) j, zf_mono v2 (fun q hq => by unfold pt_S; simp only [List.mem_cons, List.not_mem_nil, or_false] at hq ⊢; omega)⟩
    have h11 : I2 b 11 = nI ((y + 7) / 8) := by rw [zf_at v2 (by simp), zx_u2_k (by omega), zx_u2_s]
    have h9 : I2 b 9 = nI T := by rw [zf_at v2 (by simp), zx_u2_s]
    have b4 : b + 4 ∉ b :: pt_S o b := by unfold pt_S; simp only [List.mem_cons, List.not_mem_nil, or_false, not_or]; omega
    refine t_pt63 (G := (y + 7) / 8) (T := T) (y := y) (ks := ks) (sy := sy) l d g gb hd hy hk hs (by omega) (by omega) hT hT4 3 0 I2 (by omega) ⟨by rw [z1.1 7 (by simp)]; exact a1.1, fun k hk => by rw [zf_at z1.2 b4]; exact a1.2 k hk⟩ (by rw [z1.1 5 (by simp)]; exact h5) h9 ⟨h11, v1⟩ (fun h => absurd h (by omega)) (fun I3 w1 w2 w3 => ?_)
    have b3 : b ∉ pt_S o b := by unfold pt_S; simp only [List.mem_cons, List.not_mem_nil, or_false, not_or]; omega
    rw [eT] at w1 w2
    exact ⟨rfl, by rw [zf_at w3 b3, h9, eT], w1, w2, zg_trans z1 ⟨fun j _ => zf_at w3 b3 j, zf_mono w3 (fun q hq => List.mem_cons_of_mem _ hq)⟩⟩
  refine zi_of (by decide) (fun α => Nat.le_of_ble_eq_true rfl) (r_Picker_pickTables_0 l (d + 2) o b gb.k ?_)
  rw [e, show (4 : Int32) = nI 4 from rfl, nI_leI (by omega) (by omega)]
  exact ⟨fun c => main 2 (by omega) (by omega) (by unfold pc_T; rw [if_pos c]), fun c => main 3 (by omega) (by omega) (by unfold pc_T; rw [if_neg c])⟩
end PT
