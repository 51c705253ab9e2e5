/-! The maps, written by the class. -/
/-- which bytes stand at the first i places -/
def uu (ks : List Nat) : Nat → Nat → Bool
  | 0, _ => false
  | i + 1, b => uu ks i b || decide (b = ks.getD i 0)
theorem an_step {ks : List Nat} {i g : Nat} : an (uu ks (i + 1)) (16 * g) 16 = (an (uu ks i) (16 * g) 16 || decide (g = ks.getD i 0 / 16)) := by
  rw [Bool.eq_iff_iff, an_iff, Bool.or_eq_true, an_iff, decide_eq_true_iff]
  constructor
  · rintro ⟨j, h1, h2⟩
    simp only [uu, Bool.or_eq_true, decide_eq_true_iff] at h2
    rcases h2 with h2 | h2
    · exact Or.inl ⟨j, h1, h2⟩
    · exact Or.inr (by omega)
  · rintro (⟨j, h1, h2⟩ | h)
    · exact ⟨j, h1, by simp [uu, h2]⟩
    · exact ⟨ks.getD i 0 % 16, Nat.mod_lt _ (by omega), by
        simp only [uu, Bool.or_eq_true, decide_eq_true_iff]
        exact Or.inr (by omega)⟩
theorem mp_an_false {P : Nat → Bool} (h : ∀ i, i < 16 → P i = false) : mp P 16 = 0 := by
  rw [mp_congr (P2 := fun _ => false) 16 h]
  rfl
section CM
variable {K : zx_Kt} {RJ : zx_RJ} {o b w ro n q kb : Nat} {ks : List Nat}
theorem zb_one : ∀ i, i < 16 → (1 : Int32) <<< ((nI 15 - nI i) &&& 31) = nI (2 ^ (15 - i)) := by decide +kernel
theorem c_mapBit (l : Launch) (d : Nat) {I : zi_I} {i : Nat} (hi : i < 16) : zi_C l (zx_rm d 0 0) M_Main_mapBit [.int (nI i)] K RJ I (fun r I2 => r = some (.int (nI (2 ^ (15 - i)))) ∧ I2 = I) :=
  zi_of (by decide) (fun α => Nat.le_of_ble_eq_true rfl) (r_Main_mapBit_0 l d _ ⟨by rw [show (15 : Int32) = nI 15 from rfl, zb_one i hi], rfl⟩)
/-- the writer of blocks o with its maps q; the block b with its kinds kb -/
def g_WM (K : zx_Kt) (RJ : zx_RJ) (o b w ro n q kb : Nat) : Prop := (K.2 o).1 = 12 ∧ RJ.1 o 0 = w ∧ w ≠ 0 ∧ g_W K RJ w ro n ∧ RJ.1 o 1 = q ∧ q ≠ 0 ∧ K.2 q = (0, 16) ∧ (K.2 b).1 = 9 ∧ RJ.1 b 6 = kb ∧ kb ≠ 0 ∧ K.2 kb = (0, 256) ∧
  (∀ x ∈ [b, kb, q], x ∉ [w, ro, ro + 1]) ∧ (∀ x ∈ [b, kb, w, ro, ro + 1], x ≠ q)
theorem t_wm78 (l : Launch) (d : Nat) {u : Nat → Bool} {x2 : Int32} {Q : zi_Q} (g : g_WM K RJ o b w ro n q kb) :
    ∀ (j i : Nat) (s : ws_S) (I : zi_I), i + j = 16 → (∀ k, k < 16 → I q k = nI (mp (fun c => u (16 * k + c)) 16)) → a_W I w ro n s → ws_n (sp_mapsL u s i j) ≤ 8 * n →
      (∀ I2, a_W I2 w ro n (sp_mapsL u s i j) → zf [w, ro, ro + 1] I I2 → Q none I2) →
      zi_X l (zx_rm (d + 3) 0 0) M_BlockWriter_writeMap K RJ Q 78 [(0, .ref o), (1, .ref b), (2, .int x2), (3, .int (nI i))] [] I := by
  obtain ⟨g1, g2, g3, g4, g5, g6, g7, g8, g9, g10, g11, gd, ge⟩ := g
  intro j
  induction j with
  | zero =>
    intro i s I hi hm a hn hq
    refine r_BlockWriter_writeMap_78 l (d + 2) o b _ _ g1 g5 g6 g7 g2 g3 g4.1 ⟨fun _ => hq I a zf_refl, fun c => ?_⟩
    rw [nI_leI (by omega) (by omega)] at c
    omega
  | succ j ih =>
    intro i s I hi hm a hn hq
    have hml := mp_lt (fun c => u (16 * i + c)) 16
    have hmi := hm i (by omega)
    refine r_BlockWriter_writeMap_78 l (d + 2) o b _ _ g1 g5 g6 g7 g2 g3 g4.1 ⟨fun c => ?_, fun _ => ⟨i, rfl, by omega, fun c => ?_, fun c => ⟨i, rfl, by omega, ?_⟩⟩⟩
    · rw [nI_leI (by omega) (by omega)] at c
      omega
    · rw [hmi, show (0 : Int32) = nI 0 from rfl, nI_eq (by omega) (by omega)] at c
      have hc : ¬ an u (16 * i) 16 = true := fun h => by
        obtain ⟨j1, h1, h2⟩ := an_iff.mp h
        rw [mp_zero c j1 h1] at h2
        cases h2
      have e : sp_mapsL u s i (j + 1) = sp_mapsL u s (i + 1) j := by
        show sp_mapsL u (if an u (16 * i) 16 = true then _ else s) (i + 1) j = _
        rw [if_neg hc]
      rw [e] at hn hq
      rw [nI_1]
      exact ih (i + 1) s I (by omega) hm a hn hq
    · have hc : an u (16 * i) 16 = true := Decidable.byContradiction (fun h => c (by
        rw [hmi, mp_an_false (fun k hk => by
          cases hu : u (16 * i + k)
          · rfl
          · exact absurd (an_iff.mpr ⟨k, hk, hu⟩) h)]
        rfl))
      have e : sp_mapsL u s i (j + 1) = sp_mapsL u (ws_put s (mp (fun k => u (16 * i + k)) 16) 16) (i + 1) j := by
        show sp_mapsL u (if an u (16 * i) 16 = true then _ else s) (i + 1) j = _
        rw [if_pos hc]
      rw [e] at hn hq
      have hn1 := Nat.le_trans (ws_n_mapsL u j (ws_put s (mp (fun k => u (16 * i + k)) 16) 16) (i + 1)) hn
      rw [ws_n_put] at hn1
      rw [hmi]
      refine zi_mono (c_put (k := 16) l d g4 a (by omega) (by decide) hn1) ?_
      rintro r I2 ⟨rfl, z1, z2⟩
      refine ⟨rfl, ?_⟩
      rw [nI_1]
      exact ih (i + 1) _ I2 (by omega) (fun k hk => by rw [zf_at z2 (gd q (by simp))]; exact hm k hk) z1 hn (fun I3 y1 y2 => hq I3 y1 (zf_trans z2 y2))
theorem t_wm12 (l : Launch) (d : Nat) {s : ws_S} {Q : zi_Q} (g : g_WM K RJ o b w ro n q kb) (hk : ∀ v ∈ ks, v < 256) (hl : ks.length ≤ 256) :
    ∀ (j i : Nat) (I : zi_I), i + j = ks.length → aL I b 5 kb ks → (∀ k, k < 16 → I q k = nI (mp (fun c => uu ks i (16 * k + c)) 16)) → a_W I w ro n s → ws_n (sp_maps (uu ks ks.length) s) ≤ 8 * n →
      (∀ I2, a_W I2 w ro n (sp_maps (uu ks ks.length) s) → zf [w, ro, ro + 1, q] I I2 → Q none I2) →
      zi_X l (zx_rm (d + 3) 0 0) M_BlockWriter_writeMap K RJ Q 12 [(0, .ref o), (1, .ref b), (2, .int (nI (mp (fun g => an (uu ks i) (16 * g) 16) 16))), (3, .int (nI i))] [] I := by
  have g' := g
  obtain ⟨g1, g2, g3, g4, g5, g6, g7, g8, g9, g10, g11, gd, ge⟩ := g
  intro j
  induction j with
  | zero =>
    intro i I hi al hm a hn hq
    obtain rfl : i = ks.length := by omega
    have hn1 := Nat.le_trans (ws_n_mapsL (uu ks ks.length) 16 (ws_put s (mp (fun g => an (uu ks ks.length) (16 * g) 16) 16) 16) 0) hn
    rw [ws_n_put] at hn1
    have hml := mp_lt (fun g => an (uu ks ks.length) (16 * g) 16) 16
    refine r_BlockWriter_writeMap_12 l (d + 2) o b _ _ g8 g1 g2 g3 g4.1 g9 g10 g11 g5 g6 g7 ⟨fun _ => zi_mono (c_put (k := 16) l d g4 a (by omega) (by decide) hn1) ?_, fun c => ?_⟩
    · rintro r I2 ⟨rfl, z1, z2⟩
      exact ⟨rfl, t_wm78 l d g' 16 0 _ I2 (by omega) (fun k hk => by rw [zf_at z2 (gd q (by simp))]; exact hm k hk) z1 hn (fun I3 y1 y2 => hq I3 y1 (zf_trans (zf_mono z2 (by simp)) (zf_mono y2 (by simp))))⟩
    · rw [al.1, nI_leI (by omega) (by omega)] at c
      omega
  | succ j ih =>
    intro i I hi al hm a hn hq
    have hv : ks.getD i 0 < 256 := by
      rw [List.getD_eq_getElem?_getD, List.getElem?_eq_getElem (by omega)]
      exact hk _ (List.getElem_mem (by omega))
    have hvi := al.2 i (by omega)
    have e16 : nI (ks.getD i 0) / 16 = nI (ks.getD i 0 / 16) := pk_div (d := 16) (by omega) (by omega) (by omega)
    have em : nI (ks.getD i 0) - nI (ks.getD i 0) / 16 * 16 = nI (ks.getD i 0 % 16) := pk_rem (d := 16) (by omega) (by omega) (by omega)
    refine r_BlockWriter_writeMap_12 l (d + 2) o b _ _ g8 g1 g2 g3 g4.1 g9 g10 g11 g5 g6 g7 ⟨fun c => ?_, fun _ => ⟨i, rfl, by omega, ?_⟩⟩
    · rw [al.1, nI_leI (by omega) (by omega)] at c
      omega
    · rw [hvi, em, e16]
      refine zi_mono (c_mapBit (i := ks.getD i 0 / 16) l (d + 2) (by omega)) ?_
      rintro r I2 ⟨rfl, rfl⟩
      refine ⟨_, rfl, ks.getD i 0 / 16, rfl, by omega, zi_mono (c_mapBit (i := ks.getD i 0 % 16) l (d + 2) (by omega)) ?_⟩
      rintro r I3 ⟨rfl, rfl⟩
      refine ⟨_, rfl, ks.getD i 0 / 16, rfl, by omega, ?_⟩
      rw [hm _ (by omega), zb_or, zb_or, nI_1]
      have o1 := mp_or (fun g => an (uu ks i) (16 * g) 16) 16 (ks.getD i 0 / 16) (by omega)
      rw [show 16 - 1 - ks.getD i 0 / 16 = 15 - ks.getD i 0 / 16 by omega] at o1
      have o2 := mp_or (fun c => uu ks i (16 * (ks.getD i 0 / 16) + c)) 16 (ks.getD i 0 % 16) (by omega)
      rw [show 16 - 1 - ks.getD i 0 % 16 = 15 - ks.getD i 0 % 16 by omega] at o2
      rw [o1, o2, ← mp_congr (P := fun g => an (uu ks (i + 1)) (16 * g) 16) 16 (fun g _ => an_step)]
      refine ih (i + 1) _ (by omega) (al.keep (S := [q]) (zf_u2 (by simp)) (by simp; exact ge b (by simp)) (by simp; exact ge kb (by simp))) ?_ (a.keep (S := [q]) (zf_u2 (by simp)) (by simp; exact ge w (by simp)) (by simp; exact ge ro (by simp)) (by simp; exact ge (ro + 1) (by simp))) hn (fun I4 y1 y2 => hq I4 y1 (zf_trans (zf_u2 (by simp)) y2))
      intro k hk16
      by_cases hkk : k = ks.getD i 0 / 16
      · subst hkk
        rw [zx_u2_s]
        congr 1
        refine mp_congr 16 (fun c hc => ?_)
        show _ = (uu ks i _ || decide (_ = ks.getD i 0))
        congr 1
        rw [Bool.eq_iff_iff, decide_eq_true_iff, decide_eq_true_iff]
        omega
      · rw [zx_u2_k hkk, hm k hk16]
        congr 1
        refine mp_congr 16 (fun c hc => ?_)
        show uu ks i _ = (uu ks i _ || decide (_ = ks.getD i 0))
        rw [decide_eq_false (by omega), Bool.or_false]
theorem c_writeMap (l : Launch) (d : Nat) {I : zi_I} {s : ws_S} (g : g_WM K RJ o b w ro n q kb) (hk : ∀ v ∈ ks, v < 256) (hl : ks.length ≤ 256) (al : aL I b 5 kb ks) (a : a_W I w ro n s) (hn : ws_n (sp_maps (uu ks ks.length) s) ≤ 8 * n) :
    zi_C l (zx_rm (d + 3) 0 0) M_BlockWriter_writeMap [.ref o, .ref b] K RJ I (fun r I2 => r = none ∧ a_W I2 w ro n (sp_maps (uu ks ks.length) s) ∧ zf [w, ro, ro + 1, q] I I2) := by
  have g' := g
  obtain ⟨g1, g2, g3, g4, g5, g6, g7, g8, g9, g10, g11, gd, ge⟩ := g
  refine zi_of (by decide) (fun α => Nat.le_of_ble_eq_true rfl) (r_BlockWriter_writeMap_0 l (d + 2) o b g1 g5 g6 (zi_mono (c_fill l (d + 2) g7 (by decide)) ?_))
  rintro r I2 ⟨rfl, rfl⟩
  have z0 : zf [q] I (fun c i => if c = q ∧ i < 16 then 0 else I c i) := fun c hc => by
    funext i
    have : c ≠ q := fun e => hc (by simp [e])
    simp [this]
  have e0 : mp (fun g => an (uu ks 0) (16 * g) 16) 16 = 0 := mp_an_false (fun i _ => by
    cases h : an (uu ks 0) (16 * i) 16
    · rfl
    · obtain ⟨j, _, h2⟩ := an_iff.mp h
      cases h2)
  have h := t_wm12 (s := s) (Q := fun r I2 => r = none ∧ a_W I2 w ro n (sp_maps (uu ks ks.length) s) ∧ zf [w, ro, ro + 1, q] I I2) l d g' hk hl ks.length 0 (fun c i => if c = q ∧ i < 16 then 0 else I c i) (by omega) (al.keep z0 (by simp; exact ge b (by simp)) (by simp; exact ge kb (by simp))) (fun k hk16 => by
    rw [if_pos ⟨rfl, hk16⟩, mp_an_false (P := fun c => uu ks 0 (16 * k + c)) (fun i _ => rfl)]
    rfl) (a.keep z0 (by simp; exact ge w (by simp)) (by simp; exact ge ro (by simp)) (by simp; exact ge (ro + 1) (by simp))) hn (fun I3 y1 y2 => ⟨rfl, y1, zf_trans (zf_mono z0 (by simp)) y2⟩)
  rw [e0] at h
  exact ⟨rfl, h⟩
end CM
