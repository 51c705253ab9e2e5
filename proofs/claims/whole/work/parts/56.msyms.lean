/-! The reference makes symbols. -/
section MY
variable {K : zx_Kt} {RJ : zx_RJ} {m n : Nat} {c : Nat → Nat}
theorem c_maddSymbol (l : Launch) (d : Nat) {I : zi_I} {v : Nat} {out : List Nat} (g : g_Mod K RJ m) (a : aL I m 17 (m + 7) out) (hl : out.length < 80) :
    zi_C l (zx_rm d 0 0) M_Mod_addSymbol [.ref m, .int (nI v)] K RJ I (fun r I2 => r = none ∧ aL I2 m 17 (m + 7) (out ++ [v]) ∧ zg m [17] [m + 7] I I2) := by
  refine zi_of (by decide) (fun α => Nat.le_of_ble_eq_true rfl) (r_Mod_addSymbol_0 l d m _ g.1 g.symbolsR (by omega) g.symbolsK ⟨out.length, a.1, by omega, rfl, ?_, zg_trans (zg_arr (by simp) (by omega)) (zg_fld (by simp))⟩)
  rw [a.1, nI_1]
  exact aL_add a (by omega)
theorem t_mrun2 (l : Launch) (d : Nat) {x1 : Int32} {Q : zi_Q} (g : g_Mod K RJ m) :
    ∀ (r : Nat) (I : zi_I) (out : List Nat), r < 2 ^ 20 → aL I m 17 (m + 7) out → out.length + r ≤ 80 →
      (∀ I2, aL I2 m 17 (m + 7) (out ++ dg r) → zg m [17] [m + 7] I I2 → Q none I2) →
      zi_X l (zx_rm (d + 1) 0 0) M_Mod_addRun K RJ Q 2 [(0, .ref m), (1, .int x1), (2, .int (nI r))] [] I := by
  intro r
  induction r using Nat.strongRecOn with
  | ind r ih =>
    intro I out hr a hl q
    by_cases h : r = 0
    · subst h
      refine r_Mod_addRun_2 l d m _ _ g.1 ⟨fun _ => q I (by rw [dg_0, List.append_nil]; exact a) zg_refl, fun c => absurd (by decide) c⟩
    · have em : nI r - nI r / 2 * 2 = nI (r % 2) := pk_rem (d := 2) (by omega) (by omega) (by omega)
      have step : ∀ v (x : Int32), (if r % 2 = 1 then 0 else 1) = v → x = nI ((r - 1) / 2) → zi_C l (zx_rm d 0 0) M_Mod_addSymbol [.ref m, .int (nI v)] K RJ I (fun r' I2 => r' = none ∧ zi_X l (zx_rm (d + 1) 0 0) M_Mod_addRun K RJ Q 2 [(0, .ref m), (1, .int x1), (2, .int x)] [] I2) := by
        intro v x hv hx
        refine zi_mono (c_maddSymbol l d g a (by omega)) ?_
        rintro r' I2 ⟨rfl, v1, v2⟩
        rw [hx]
        refine ⟨rfl, ih ((r - 1) / 2) (by omega) I2 (out ++ [v]) (by omega) v1 (by rw [List.length_append, List.length_singleton]; omega) (fun I3 y1 y2 => q I3 ?_ (zg_trans v2 y2))⟩
        rw [dg_s h, hv]
        rw [List.append_assoc] at y1
        exact y1
      refine r_Mod_addRun_2 l d m _ _ g.1 ⟨fun c => ?_, fun _ => ⟨fun c => ?_, fun c => ?_⟩⟩
      · rw [show (0 : Int32) = nI 0 from rfl, nI_leI (by omega) (by omega)] at c
        omega
      · rw [em, show (1 : Int32) = nI 1 from rfl, nI_eq (by omega) (by omega)] at c
        refine step 1 _ (if_neg c) ?_
        rw [show (1 : Int32) = nI 1 from rfl, pk_sub (by omega), pk_sub (by omega), show (r - 1) / 2 = (r - 1 - 1) / 2 by omega]
        exact pk_div (d := 2) (by omega) (by omega) (by omega)
      · rw [em, show (1 : Int32) = nI 1 from rfl, nI_eq (by omega) (by omega)] at c
        refine step 0 _ (if_pos c) ?_
        rw [show (1 : Int32) = nI 1 from rfl, pk_sub (by omega), show nI (r - 1) - 0 = nI (r - 1) from Int32.sub_zero _]
        exact pk_div (d := 2) (by omega) (by omega) (by omega)
theorem c_maddRun (l : Launch) (d : Nat) {I : zi_I} {r : Nat} {out : List Nat} (g : g_Mod K RJ m) (a : aL I m 17 (m + 7) out) (hr : out.length + r ≤ 80) :
    zi_C l (zx_rm (d + 1) 0 0) M_Mod_addRun [.ref m, .int (nI r)] K RJ I (fun r' I2 => r' = none ∧ aL I2 m 17 (m + 7) (out ++ dg r) ∧ zg m [17] [m + 7] I I2) :=
  zi_of (by decide) (fun α => Nat.le_of_ble_eq_true rfl) (r_Mod_addRun_0 l d m _ (t_mrun2 l d g r I out (by omega) a hr (fun I2 y1 y2 => ⟨rfl, y1, y2⟩)))
theorem t_lu7 (l : Launch) (d : Nat) {Q : zi_Q} {u : Nat → Bool} (g : g_Mod K RJ m) :
    ∀ (j v : Nat) (I : zi_I), v + j = 256 → a_Us I m u → aL I m 22 (m + 9) (kf u v) →
      (∀ I2, aL I2 m 22 (m + 9) (kf u 256) → zg m [22] [m + 9] I I2 → Q none I2) →
      zi_X l (zx_rm d 0 0) M_Mod_listUsed K RJ Q 7 [(0, .ref m), (1, .int (nI v))] [] I := by
  intro j
  induction j with
  | zero =>
    intro v I hv hu a q
    obtain rfl : v = 256 := by omega
    refine r_Mod_listUsed_7 l d m _ g.1 g.usedR (by omega) g.usedK g.listR (by omega) g.listK ⟨fun _ => q I a zg_refl, fun c => absurd (by decide) c⟩
  | succ j ih =>
    intro v I hv hu a q
    have hl := kf_le u v
    refine r_Mod_listUsed_7 l d m _ g.1 g.usedR (by omega) g.usedK g.listR (by omega) g.listK ⟨fun c => ?_, fun _ => ⟨v, rfl, by omega, fun c => ?_, fun c => ⟨(kf u v).length, a.1, by omega, ?_⟩⟩⟩
    · rw [show (256 : Int32) = nI 256 from rfl, nI_leI (by omega) (by omega)] at c
      omega
    · rw [hu v (by omega)] at c
      rw [nI_1]
      refine ih (v + 1) I (by omega) hu ?_ q
      rw [kf_s, if_neg (fun z => by rw [if_pos z] at c; exact absurd c (by decide))]
      exact a
    · have hv1 : u v = true := by
        rw [hu v (by omega)] at c
        by_cases h : u v = true
        · exact h
        · rw [if_neg h] at c
          exact absurd rfl c
      rw [a.1, nI_1, nI_1]
      have z : zg m [22] [m + 9] I (zx_u2 (zx_u2 I (m + 9) (kf u v).length (nI v)) m 22 (nI ((kf u v).length + 1))) := zg_trans (zg_arr (by simp) (by omega)) (zg_fld (by simp))
      refine ih (v + 1) _ (by omega) (hu.keep z (by simp)) ?_ (fun I3 y1 y2 => q I3 y1 (zg_trans z y2))
      rw [kf_s, if_pos hv1]
      exact aL_add a (by omega)
theorem c_listUsed (l : Launch) (d : Nat) {I : zi_I} {u : Nat → Bool} (g : g_Mod K RJ m) (hu : a_Us I m u) :
    zi_C l (zx_rm d 0 0) M_Mod_listUsed [.ref m] K RJ I (fun r I2 => r = none ∧ aL I2 m 22 (m + 9) (kf u 256) ∧ zg m [22] [m + 9] I I2) := by
  have z : zg m [22] [m + 9] I (zx_u2 I m 22 0) := zg_fld (by simp)
  refine zi_of (by decide) (fun α => Nat.le_of_ble_eq_true rfl) (r_Mod_listUsed_0 l d m g.1 (t_lu7 (u := u) l d g 256 0 _ (by omega) (hu.keep z (by simp)) ⟨?_, fun i hi => absurd hi (Nat.not_lt_zero _)⟩ (fun I2 y1 y2 => ⟨rfl, y1, zg_trans z y2⟩)))
  rw [zx_u2_s]
  rfl
theorem t_my73 (l : Launch) (d : Nat) {Q : zi_Q} {x1 x2 : Int32} {I : zi_I} {i v : Nat} {xs : List Nat} (g : g_Mod K RJ m) (hi : i < 80) (e2 : x2 = nI i) (hv : v < 256) (hcv : I (m + 6) i = nI v) (hxl : xs.length ≤ 256) (hxb : ∀ w ∈ xs, w < 256) (ax : aA I (m + 9) xs) (hm : v ∈ xs)
    (q : zi_C l (zx_rm d 0 0) M_Mod_toFront [.ref m, .int (nI (ix v xs))] K RJ I (fun r I18 => ∃ v19, r = some (.int v19) ∧ ((¬ nI (ix v xs) = 0) → zi_C l (zx_rm d 0 0) M_Mod_addRun [.ref m, .int x1] K RJ I18 (fun r I20 => r = none ∧ zi_C l (zx_rm d 0 0) M_Mod_addSymbol [.ref m, .int (nI (ix v xs) + 1)] K RJ I20 (fun r I21 => r = none ∧ zi_X l (zx_rm (d + 1) 0 0) M_Mod_makeSymbols K RJ Q 63 [(0, .ref m), (1, .int 0), (2, .int (x2 + 1))] [] I21))) ∧ ((nI (ix v xs) = 0) → ((v19 < 0) → zi_X l (zx_rm (d + 1) 0 0) M_Mod_makeSymbols K RJ Q 63 [(0, .ref m), (1, .int (x1 + 0)), (2, .int (x2 + 1))] [] I18) ∧ ((¬ v19 < 0) → zi_X l (zx_rm (d + 1) 0 0) M_Mod_makeSymbols K RJ Q 63 [(0, .ref m), (1, .int (x1 + 1)), (2, .int (x2 + 1))] [] I18)))) :
    ∀ (j p : Nat), p + j = ix v xs → zi_X l (zx_rm (d + 1) 0 0) M_Mod_makeSymbols K RJ Q 73 [(0, .ref m), (1, .int x1), (2, .int x2), (3, .int (nI p))] [] I := by
  have hix := ix_lt hm
  intro j
  induction j with
  | zero =>
    intro p hp
    obtain rfl : p = ix v xs := by omega
    refine r_Mod_makeSymbols_73 l d m _ _ _ g.1 g.listR (by omega) g.listK g.columnR (by omega) g.columnK ⟨_, rfl, by omega, i, e2, by omega, fun _ => q, fun c => ?_⟩
    rw [ax _ hix, ix_at hm, hcv] at c
    exact absurd rfl c
  | succ j ih =>
    intro p hp
    refine r_Mod_makeSymbols_73 l d m _ _ _ g.1 g.listR (by omega) g.listK g.columnR (by omega) g.columnK ⟨p, rfl, by omega, i, e2, by omega, fun c => ?_, fun _ => ?_⟩
    · have hb := hxb _ (getD_mem (show p < xs.length by omega))
      rw [ax _ (by omega), hcv, nI_eq (by omega) (by omega)] at c
      exact absurd c (ix_no (by omega))
    · rw [nI_1]
      exact ih (p + 1) (by omega)
theorem t_my63 (l : Launch) (d : Nat) {Q : zi_Q} {kc : Nat} (g : g_Mod K RJ m) (hn : n ≤ 64) (hcb : ∀ i, i < n → c i < 256) :
    ∀ (j i run : Nat) (xs out : List Nat) (I : zi_I), i + j = n → I m 14 = nI n → (∀ p, p < n → I (m + 6) p = nI (c p)) → I m 22 = nI kc → aA I (m + 9) xs → xs.length ≤ 256 → (∀ w ∈ xs, w < 256) → (∀ k, i ≤ k → k < n → c k ∈ xs) → aL I m 17 (m + 7) out → out.length + run + j + 1 ≤ 65 →
      (∀ I2, aL I2 m 17 (m + 7) (sy_go c j i xs run out ++ [kc + 1]) → zg m [17] [m + 7, m + 9] I I2 → Q none I2) →
      zi_X l (zx_rm (d + 2) 0 0) M_Mod_makeSymbols K RJ Q 63 [(0, .ref m), (1, .int (nI run)), (2, .int (nI i))] [] I := by
  intro j
  induction j with
  | zero =>
    intro i run xs out I hi h14 hc h22 ax hxl hxb hx a hl q
    refine r_Mod_makeSymbols_63 l (d + 1) m _ _ g.1 ⟨fun _ => zi_mono (c_maddRun (r := run) l d g a (by omega)) ?_, fun c => ?_⟩
    · rintro r I2 ⟨rfl, v1, v2⟩
      have hdl := dg_len run
      refine ⟨rfl, ?_⟩
      rw [v2.1 22 (by simp), h22, nI_1]
      refine zi_mono (c_maddSymbol l (d + 1) g v1 (by rw [List.length_append]; omega)) ?_
      rintro r I4 ⟨rfl, w1, w2⟩
      exact ⟨rfl, q I4 w1 (zg_trans (zg_mono v2 (by simp) (by simp)) (zg_mono w2 (by simp) (by simp)))⟩
    · rw [h14, nI_leI (by omega) (by omega)] at c
      omega
  | succ j ih =>
    intro i run xs out I hi h14 hc h22 ax hxl hxb hx a hl q
    have h0 := hx i (Nat.le_refl _) (by omega)
    have hix := ix_lt h0
    have hcb1 := hcb i (by omega)
    refine r_Mod_makeSymbols_63 l (d + 1) m _ _ g.1 ⟨fun c => ?_, fun _ => ?_⟩
    · rw [h14, nI_leI (by omega) (by omega)] at c
      omega
    · refine t_my73 (xs := xs) (i := i) (v := c i) l (d + 1) g (by omega) rfl hcb1 (hc i (by omega)) hxl hxb ax h0 (zi_mono (c_toFront (k := ix (c i) xs) l (d + 1) g (by omega)) ?_) (ix (c i) xs) 0 (by omega)
      rintro r I2 ⟨rfl, rfl⟩
      have zz : zg m [17] [m + 7, m + 9] I (mvF I (m + 9) (ix (c i) xs)) := zg_mvF (by simp) (by omega)
      have ax2 := mvF_aA ax hix
      have hx2 : ∀ k, i + 1 ≤ k → k < n → c k ∈ mv_to xs (ix (c i) xs) := fun k h1 h2 => mv_mem2 hix (hx k (by omega) h2)
      have hxl2 : (mv_to xs (ix (c i) xs)).length ≤ 256 := by rw [mv_len hix]; exact hxl
      have hxb2 : ∀ w ∈ mv_to xs (ix (c i) xs), w < 256 := fun w hw => hxb w (mv_mem hix hw)
      have a2 : aL (mvF I (m + 9) (ix (c i) xs)) m 17 (m + 7) out := a.keepg (F := []) (S := [m + 9]) (zg_mvF (by simp) (by omega)) (by simp) (by omega) (by simp)
      rw [ax _ hix, ix_at h0]
      refine ⟨_, rfl, fun e => ?_, fun e => ?_⟩
      · rw [show (0 : Int32) = nI 0 from rfl, nI_eq (by omega) (by omega)] at e
        refine zi_mono (c_maddRun (r := run) l d g a2 (by omega)) ?_
        rintro r I3 ⟨rfl, w1, w2⟩
        have hdl := dg_len run
        rw [nI_1]
        refine ⟨rfl, zi_mono (c_maddSymbol l (d + 1) g w1 (by rw [List.length_append]; omega)) ?_⟩
        rintro r I4 ⟨rfl, u1, u2⟩
        rw [nI_1]
        have z5 : zg m [17] [m + 7] (mvF I (m + 9) (ix (c i) xs)) I4 := zg_trans w2 u2
        have z4 : zg m [17] [m + 7, m + 9] I I4 := zg_trans zz (zg_mono z5 (by simp) (by simp))
        refine ⟨rfl, ih (i + 1) 0 (mv_to xs (ix (c i) xs)) _ I4 (by omega) (by rw [z4.1 14 (by simp)]; exact h14) (fun p hp => by rw [zg_cell z4 (by omega) (by simp)]; exact hc p hp) (by rw [z4.1 22 (by simp)]; exact h22) (fun p hp => by rw [zg_cell z5 (by omega) (by simp)]; exact ax2 p hp) hxl2 hxb2 hx2 u1 (by rw [List.length_append, List.length_append, List.length_singleton]; omega) (fun I5 y1 y2 => q I5 ?_ (zg_trans z4 y2))⟩
        rw [sy_go_s, if_neg e]
        exact y1
      · rw [show (0 : Int32) = nI 0 from rfl, nI_eq (by omega) (by omega)] at e
        refine ⟨fun c0 => absurd c0 (nI_pos (by omega)), fun _ => ?_⟩
        rw [nI_1, nI_1]
        refine ih (i + 1) (run + 1) (mv_to xs (ix (c i) xs)) out _ (by omega) (by rw [zz.1 14 (by simp)]; exact h14) (fun p hp => by rw [zg_cell zz (by omega) (by simp)]; exact hc p hp) (by rw [zz.1 22 (by simp)]; exact h22) ax2 hxl2 hxb2 hx2 a2 (by omega) (fun I5 y1 y2 => q I5 ?_ (zg_trans zz y2))
        rw [sy_go_s, if_pos e]
        exact y1
theorem t_my24 (l : Launch) (d : Nat) {Q : zi_Q} {sh : List Nat} (g : g_Mod K RJ m) (hn : sh.length ≤ 64) (hsb : ∀ v ∈ sh, v < 256) (hcb : ∀ i, i < sh.length → c i ∈ sh) :
    ∀ (j i : Nat) (I : zi_I), i + j = sh.length → aL I m 14 (m + 5) sh → (∀ p, p < sh.length → I (m + 6) p = nI (c p)) → a_Us I m (uu sh i) →
      (∀ I2, aL I2 m 17 (m + 7) (sy_all c sh.length (kf (uu sh sh.length) 256)) → I2 m 22 = nI (kf (uu sh sh.length) 256).length → a_Us I2 m (uu sh sh.length) → zg m [17, 22] [m + 7, m + 8, m + 9] I I2 → Q none I2) →
      zi_X l (zx_rm (d + 2) 0 0) M_Mod_makeSymbols K RJ Q 24 [(0, .ref m), (1, .int (nI i))] [] I := by
  intro j
  induction j with
  | zero =>
    intro i I hi as hc hu q
    obtain rfl : i = sh.length := by omega
    refine r_Mod_makeSymbols_24 l (d + 1) m _ g.1 g.usedR (by omega) g.shortRowR (by omega) g.shortRowK g.usedK ⟨fun _ => zi_mono (c_listUsed l (d + 1) g hu) ?_, fun c => ?_⟩
    · rintro r I2 ⟨rfl, v1, v2⟩
      have z2 : zg m [17, 22] [m + 7, m + 8, m + 9] I (zx_u2 I2 m 17 0) := zg_trans (zg_mono v2 (by simp) (by simp)) (zg_fld (by simp))
      have z3 : zg m [17] [] I2 (zx_u2 I2 m 17 0) := zg_fld (by simp)
      have v3 : aL (zx_u2 I2 m 17 0) m 22 (m + 9) (kf (uu sh sh.length) 256) := v1.keepg z3 (by simp) (by omega) (by simp)
      have hkl := kf_le (uu sh sh.length) 256
      have hm : ∀ i, i < sh.length → c i ∈ kf (uu sh sh.length) 256 := fun i hi => kf_mem.mpr ⟨hsb _ (hcb i hi), (uu_mem sh (c i)).mpr (hcb i hi)⟩
      refine ⟨rfl, t_my63 (c := c) (n := sh.length) (kc := (kf (uu sh sh.length) 256).length) l d g hn (fun i hi => hsb _ (hcb i hi)) sh.length 0 0 (kf (uu sh sh.length) 256) [] _ (by omega) (by rw [z2.1 14 (by simp)]; exact as.1) (fun p hp => by rw [zg_cell z2 (by omega) (by simp)]; exact hc p hp) v3.1 v3.2 hkl (fun w hw => (kf_mem.mp hw).1) (fun k _ h => hm k h) ⟨by rw [zx_u2_s]; rfl, fun i hi => absurd hi (Nat.not_lt_zero _)⟩ (by simp only [List.length_nil]; omega) (fun I3 y1 y2 => q I3 y1 ?_ ?_ (zg_trans z2 (zg_mono y2 (by simp) (by simp))))⟩
      · rw [y2.1 22 (by simp)]
        exact v3.1
      · exact ((hu.keep v2 (by simp)).keep z3 (by simp)).keep y2 (by simp)
    · rw [as.1, nI_leI (by omega) (by omega)] at c
      omega
  | succ j ih =>
    intro i I hi as hc hu q
    have hv := hsb _ (getD_mem (show i < sh.length by omega))
    refine r_Mod_makeSymbols_24 l (d + 1) m _ g.1 g.usedR (by omega) g.shortRowR (by omega) g.shortRowK g.usedK ⟨fun c => ?_, fun _ => ⟨i, rfl, by omega, sh.getD i 0, as.2 i (by omega), by omega, ?_⟩⟩
    · rw [as.1, nI_leI (by omega) (by omega)] at c
      omega
    · rw [nI_1]
      have z : zg m [17, 22] [m + 7, m + 8, m + 9] I (zx_u2 I (m + 8) (sh.getD i 0) 1) := zg_arr (by simp) (by omega)
      refine ih (i + 1) _ (by omega) (as.keepg z (by simp) (by omega) (by simp)) (fun p hp => by rw [zg_cell z (by omega) (by simp)]; exact hc p hp) (fun v hv2 => ?_) (fun I3 y1 y2 y3 y4 => q I3 y1 y2 y3 (zg_trans z y4))
      show _ = if (uu sh i v || decide (v = sh.getD i 0)) = true then (1 : Int32) else 0
      by_cases e : v = sh.getD i 0
      · rw [e, zx_u2_s]
        simp
      · rw [zx_u2_k e, hu v hv2, decide_eq_false e, Bool.or_false]
theorem t_my2 (l : Launch) (d : Nat) {Q : zi_Q} (g : g_Mod K RJ m) :
    ∀ (j i : Nat) (I : zi_I), i + j = 256 → (∀ v, v < i → I (m + 8) v = 0) →
      (∀ I2, (∀ v, v < 256 → I2 (m + 8) v = 0) → zg m [] [m + 8] I I2 → zi_X l (zx_rm (d + 1) 0 0) M_Mod_makeSymbols K RJ Q 24 [(0, .ref m), (1, .int 0)] [] I2) →
      zi_X l (zx_rm (d + 1) 0 0) M_Mod_makeSymbols K RJ Q 2 [(0, .ref m), (1, .int (nI i))] [] I := by
  intro j
  induction j with
  | zero =>
    intro i I hi hu q
    obtain rfl : i = 256 := by omega
    exact r_Mod_makeSymbols_2 l d m _ g.1 g.usedR (by omega) g.usedK ⟨fun _ => q I hu zg_refl, fun c => absurd (by decide) c⟩
  | succ j ih =>
    intro i I hi hu q
    refine r_Mod_makeSymbols_2 l d m _ g.1 g.usedR (by omega) g.usedK ⟨fun c => ?_, fun _ => ⟨i, rfl, by omega, ?_⟩⟩
    · rw [show (256 : Int32) = nI 256 from rfl, nI_leI (by omega) (by omega)] at c
      omega
    · rw [nI_1]
      have z : zg m [] [m + 8] I (zx_u2 I (m + 8) i 0) := zg_arr (by simp) (by omega)
      refine ih (i + 1) _ (by omega) (fun v hv => ?_) (fun I3 y1 y2 => q I3 y1 (zg_trans z y2))
      by_cases e : v = i
      · rw [e, zx_u2_s]
      · rw [zx_u2_k e]
        exact hu v (by omega)
theorem c_makeSymbols (l : Launch) (d : Nat) {I : zi_I} {sh : List Nat} (g : g_Mod K RJ m) (hn : sh.length ≤ 64) (hsb : ∀ v ∈ sh, v < 256) (hcb : ∀ i, i < sh.length → c i ∈ sh) (as : aL I m 14 (m + 5) sh) (hc : ∀ p, p < sh.length → I (m + 6) p = nI (c p)) :
    zi_C l (zx_rm (d + 2) 0 0) M_Mod_makeSymbols [.ref m] K RJ I (fun r I2 => r = none ∧ aL I2 m 17 (m + 7) (sy_all c sh.length (kf (uu sh sh.length) 256)) ∧ I2 m 22 = nI (kf (uu sh sh.length) 256).length ∧ a_Us I2 m (uu sh sh.length) ∧ zg m [17, 22] [m + 7, m + 8, m + 9] I I2) := by
  refine zi_of (by decide) (fun α => Nat.le_of_ble_eq_true rfl) (r_Mod_makeSymbols_0 l (d + 1) m (t_my2 l (d + 1) g 256 0 I (by omega) (fun _ h => absurd h (by omega)) (fun I2 y1 y2 => ?_)))
  refine t_my24 (c := c) (sh := sh) l d g hn hsb hcb sh.length 0 I2 (by omega) (as.keepg y2 (by simp) (by omega) (by simp)) (fun p hp => by rw [zg_cell y2 (by omega) (by simp)]; exact hc p hp) (fun v hv => ?_) (fun I3 w1 w2 w3 w4 => ⟨rfl, w1, w2, w3, zg_trans (zg_mono y2 (by simp) (by simp)) w4⟩)
  show I2 (m + 8) v = if false = true then (1 : Int32) else 0
  rw [y1 v hv, if_neg (by decide)]
end MY
