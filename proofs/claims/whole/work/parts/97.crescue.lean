/-! The class rescues. -/
def cr_S (o : Nat) : List Nat := List.range' (o + 3) 35 ++ List.range' (o + 80) 22
theorem crs_mem {o q : Nat} : q ∈ cr_S o ↔ (o + 3 ≤ q ∧ q < o + 38) ∨ (o + 80 ≤ q ∧ q < o + 102) := by
  unfold cr_S
  rw [List.mem_append, List.mem_range'_1, List.mem_range'_1]
def crs_post (v : st_V) (K : zx_Kt) (RJ : zx_RJ) (o : Nat) (I : zi_I) (r : Option Value) (h2 : zx_H) : Prop :=
  ∃ (I2 : zi_I) (RJ2 : zx_RJ) (tl nx : Nat), h2 = (K, I2, RJ2) ∧ g_Main K RJ2 o tl nx ∧ RJ2.2 = RJ.2 ∧ (∀ c, c ≠ o → RJ2.1 c = RJ.1 c) ∧ r = some (.int (nI v.2.1)) ∧ v.2.1 ≤ 3200 ∧ I2 o 9 = nI v.2.1 ∧ a_Row I2 (o + 3) 4600 v.1 ∧ (∃ fs, a_Row I2 (o + 5) 2000 fs) ∧ (0 < v.2.1 → a_Blk I2 tl v.2.2 ∧ bk_ok v.2.2) ∧ zg o [9] (cr_S o) I I2
theorem crs_post.pre {v : st_V} {K : zx_Kt} {RJ RJ1 : zx_RJ} {o : Nat} {I I1 : zi_I} {r : Option Value} {h2 : zx_H} (h : crs_post v K RJ1 o I1 r h2) (e1 : RJ1.2 = RJ.2) (e2 : ∀ c, c ≠ o → RJ1.1 c = RJ.1 c) (z : zg o [9] (cr_S o) I I1) : crs_post v K RJ o I r h2 := by
  obtain ⟨I2, RJ2, tl, nx, h1, h2, h3, h4, h5, h6, h7, h8, h9, h10, h11⟩ := h
  exact ⟨I2, RJ2, tl, nx, h1, h2, h3.trans e1, fun c hc => (h4 c hc).trans (e2 c hc), h5, h6, h7, h8, h9, h10, zg_trans z h11⟩
section CRS
variable {K : zx_Kt} {o : Nat} {bs os : List Nat}
theorem rs_at {bs : List Nat} {fs : List Nat} {n : Nat} {B : bk_B} {fr k' : Nat} (hl : bs.length ≤ 400) (h1 : fr ≤ k') (h2 : k' + 24 ≤ 8 * bs.length) (h3 : bt_num bs k' 24 = 3227993) (h4 : fm_no bs fr k') :
    rs_go bs 3201 fr fs n B = match rd_block bs 64 (k' + 24) with
      | .inl _ => rs_go bs 3201 (k' + 1) fs n B
      | .inr v => if rs_ok fs v.1 = true then rs_go bs 3201 v.2 (fs ++ v.1.2) (n + 1) v.1.1 else rs_go bs 3201 (k' + 1) fs n B := by
  have e := rs_skip (fs := fs) (n := n) (B := B) (k' - fr) 3201 fr (by rw [show fr + (k' - fr) = k' by omega]; exact h4) (by omega) (by omega)
  rw [show fr + (k' - fr) = k' by omega] at e
  rw [e, rs_s, if_pos h2, if_pos h3]
  cases rd_block bs 64 (k' + 24) with
  | inl f => exact rs_fuel 3200 3201 (k' + 1) fs n B (by omega) (by omega)
  | inr v =>
    show (if rs_ok fs v.1 = true then rs_go bs 3200 v.2 (fs ++ v.1.2) (n + 1) v.1.1 else rs_go bs 3200 (k' + 1) fs n B) = _
    rw [rs_fuel 3200 3201 (k' + 1) fs n B (by omega) (by omega), rs_fuel 3200 3201 v.2 (fs ++ v.1.2) (n + 1) v.1.1 (by omega) (by omega)]
theorem t_crs17 (l : Launch) (d : Nat) {P : Option Value → zx_H → Prop} :
    ∀ (j k fr n tl nx : Nat) (fs : List Nat) (B : bk_B) (RJ : zx_RJ) (I : zi_I), k + j = 3200 → k ≤ fr → fr ≤ 8 * bs.length → g_Main K RJ o tl nx → a_Row I (o + 1) 400 bs → a_Row I (o + 3) 4600 os → a_Row I (o + 5) 2000 fs → I o 9 = nI n → n ≤ k → (0 < n → a_Blk I tl B ∧ bk_ok B) →
      (∀ r h2, crs_post (rs_go bs 3201 fr fs n B) K RJ o I r h2 → P r h2) →
      zy_X l (d + 4) 0 0 M_Main_rescue (zx_Zr false (zx_rm (d + 5) 0 0) P) K RJ 17 [(0, .ref o), (1, .int (nI fr)), (2, .int (nI k))] [] I := by
  have fin : ∀ (fr n tl nx : Nat) (fs : List Nat) (B : bk_B) (RJ : zx_RJ) (I : zi_I) (x1 x2 : Int32), n ≤ 3200 → g_Main K RJ o tl nx → a_Row I (o + 3) 4600 os → a_Row I (o + 5) 2000 fs → I o 9 = nI n → (0 < n → a_Blk I tl B ∧ bk_ok B) → rs_go bs 3201 fr fs n B = (fs, n, B) →
      (∀ r h2, crs_post (rs_go bs 3201 fr fs n B) K RJ o I r h2 → P r h2) →
      zi_C l (zx_rm (d + 4) 0 0) M_Main_takeFresh [.ref o] K RJ I (fun r I2 => r = none ∧ zy_X l (d + 4) 0 0 M_Main_rescue (zx_Zr false (zx_rm (d + 5) 0 0) P) K RJ 104 [(0, .ref o), (1, .int x1), (2, .int x2)] [.int (I2 o 9)] I2) := by
    intro fr n tl nx fs B RJ I x1 x2 hn g ao af h9 hB e q
    have hd := g.d
    rw [e] at q
    refine zi_mono (c_takeFresh l (d + 2) g ao af) ?_
    rintro r I2 ⟨rfl, a2, z2⟩
    have e9 : I2 o 9 = nI n := by rw [zf_at z2 (by simp <;> omega)]; exact h9
    refine ⟨rfl, ?_⟩
    rw [e9]
    refine zx_iret d_Main_rescue_104 rfl (q _ _ ⟨I2, RJ, tl, nx, rfl, g, rfl, fun _ _ => rfl, rfl, hn, e9, a2, ⟨fs, af.keep z2 (by simp <;> omega) (by simp <;> omega)⟩, fun h => ⟨(hB h).1.keep (hB h).2.T z2 (fun x hx => ?_), (hB h).2⟩, fun i _ => zf_at z2 (by simp <;> omega) i, zf_mono z2 (fun x hx => ?_)⟩) (Nat.zero_le _) (Nat.zero_le _) (fun q => absurd q (by decide))
    · simp only [List.mem_cons, List.not_mem_nil, or_false] at hx
      omega
    · rw [List.mem_cons, crs_mem]
      simp only [List.mem_cons, List.not_mem_nil, or_false] at hx
      omega
  intro j
  induction j with
  | zero =>
    intro k fr n tl nx fs B RJ I hk hkf hfr g a ao af h9 hn hB q
    have hd := g.d
    have hbl := a.1
    refine y_Main_rescue_17 l (d + 4) o _ _ g.k g.bR (by omega) g.r.b.1 g.rR (by omega) g.nR (by omega) g.fR (by omega) g.r.k ⟨fun _ => ?_, fun c => ?_⟩
    · exact fin fr n tl nx fs B RJ I _ _ (by omega) g ao af h9 hB (rs_none 3201 fr (fun i h1 h2 h3 => by omega)) q
    · rw [show (3200 : Int32) = nI 3200 from rfl, nI_leI (by omega) (by omega)] at c
      omega
  | succ j ih =>
    intro k fr n tl nx fs B RJ I hk hkf hfr g a ao af h9 hn hB q
    have hd := g.d
    have hbl := a.1
    refine y_Main_rescue_17 l (d + 4) o _ _ g.k g.bR (by omega) g.r.b.1 g.rR (by omega) g.nR (by omega) g.fR (by omega) g.r.k ⟨fun c => ?_, fun _ => ?_⟩
    · rw [show (3200 : Int32) = nI 3200 from rfl, nI_leI (by omega) (by omega)] at c
      omega
    · refine zi_mono (c_findMark (fr := fr) l (d + 3) g.r.b (by omega) hfr a) ?_
      rintro r I2 ⟨hr, z⟩
      have zf2 : zf [o + 7] I I2 := z.2
      have ao2 : a_Row I2 (o + 3) 4600 os := ao.keep zf2 (by simp <;> omega) (by simp <;> omega)
      have af2 : a_Row I2 (o + 5) 2000 fs := af.keep zf2 (by simp <;> omega) (by simp <;> omega)
      have a2 : a_Row I2 (o + 1) 400 bs := a.keep zf2 (by simp <;> omega) (by simp <;> omega)
      have h92 : I2 o 9 = nI n := by rw [zf_at zf2 (by simp <;> omega)]; exact h9
      have hB2 : 0 < n → a_Blk I2 tl B ∧ bk_ok B := fun h => ⟨(hB h).1.keep (hB h).2.T zf2 (fun x hx => by simp only [List.mem_cons, List.not_mem_nil, or_false] at hx; omega), (hB h).2⟩
      have z2 : zg o [9] (cr_S o) I I2 := ⟨fun i _ => zf_at zf2 (by simp <;> omega) i, zf_mono zf2 (fun x hx => by
        rw [List.mem_cons, crs_mem]
        simp only [List.mem_cons, List.not_mem_nil, or_false] at hx
        omega)⟩
      rcases hr with ⟨k', m1, m2, m3, m4, rfl, m6⟩ | ⟨m1, rfl, m3⟩
      · refine ⟨_, rfl, fun x => absurd x (by decide), fun _ => ?_⟩
        rw [rs_at hbl m1 m2 m3 m4] at q
        have e1 : I2 (o + 7) 1 - 24 + 1 = nI (k' + 1) := by rw [m6, show (24 : Int32) = nI 24 from rfl, pk_sub (by omega), show k' + 24 - 24 = k' by omega, nI_1]
        rw [e1]
        refine zi_mono (c_readBlock (lim := 64) (fs := fs) (p := k' + 24) l d g.r g.n g.f (by omega) (by omega) (by omega) (by omega) (by decide) a2 af2 m6 m2) ?_
        rintro r I3 ⟨hr, z3⟩
        have nx3 : nx = o + 80 ∨ nx = o + 91 := by omega
        have mem : ∀ q ∈ rb_S (o + 8) (o + 7) (o + 5) nx, (o + 5 ≤ q ∧ q < o + 38) ∨ (nx ≤ q ∧ q < nx + 11) := fun q hq => by
          rw [rb_mem] at hq
          omega
        have no : ∀ q, ¬ ((o + 5 ≤ q ∧ q < o + 38) ∨ (nx ≤ q ∧ q < nx + 11)) → q ∉ rb_S (o + 8) (o + 7) (o + 5) nx := fun q h hq => h (mem q hq)
        have ao3 : a_Row I3 (o + 3) 4600 os := ao2.keep z3 (no _ (by omega)) (no _ (by omega))
        have a3 : a_Row I3 (o + 1) 400 bs := a2.keep z3 (no _ (by omega)) (no _ (by omega))
        have h93 : I3 o 9 = nI n := by rw [zf_at z3 (no _ (by omega))]; exact h92
        have hB3 : 0 < n → a_Blk I3 tl B ∧ bk_ok B := fun h => ⟨(hB2 h).1.keep (hB2 h).2.T z3 (fun x hx => by have := mem x hx; omega), (hB2 h).2⟩
        have z23 : zg o [9] (cr_S o) I I3 := zg_trans z2 ⟨fun i _ => zf_at z3 (no _ (by omega)) i, zf_mono z3 (fun x hx => by
          have := mem x hx
          rw [List.mem_cons, crs_mem]
          omega)⟩
        -- not a good block: one bit on
        have bad : ∀ v21 : Int32, ¬ v21 = 0 → a_Row I3 (o + 5) 2000 fs → (∀ r h2, crs_post (rs_go bs 3201 (k' + 1) fs n B) K RJ o I r h2 → P r h2) → zy_X l (d + 4) 0 0 M_Main_rescue (zx_Zr false (zx_rm (d + 5) 0 0) P) K RJ 17 [(0, .ref o), (1, .int (nI (k' + 1))), (2, .int (nI k + 1))] [] I3 := fun v21 hv af3 q2 => by
          rw [nI_1]
          exact ih (k + 1) (k' + 1) n tl nx fs B RJ I3 (by omega) (by omega) (by omega) g a3 ao3 af3 h93 (by omega) hB3 (fun r h2 hp => q2 r h2 (hp.pre rfl (fun _ _ => rfl) z23))
        cases e : rd_block bs 64 (k' + 24) with
        | inl f =>
          rw [e] at hr q
          obtain ⟨rfl, r1, r2, r3, r4⟩ := hr
          have hne : ¬ f.1 = 0 := fun x => by rw [x] at r2; exact absurd r2 (by decide)
          exact ⟨_, rfl, fun _ => bad f.1 hne r4 q, fun x => absurd x hne⟩
        | inr v =>
          rw [e] at hr q
          rcases hr with ⟨c1, rfl, c3, c4⟩ | ⟨c1, c2, rfl, c4, c5, c6, c7, c8⟩ | ⟨c1, c2, rfl, c4, c5, c6⟩
          · have hno : ¬ rs_ok fs v.1 = true := fun h => (rs_ok_iff.mp h).1 c1
            simp only [if_neg hno] at q
            exact ⟨_, rfl, fun _ => bad 1 (by decide) c4 q, fun x => absurd x (by decide)⟩
          · have hyes : rs_ok fs v.1 = true := rs_ok_iff.mpr ⟨c1, c2⟩
            simp only [if_pos hyes] at q
            have hge := rd_block_ge e
            refine ⟨_, rfl, fun x => absurd rfl x, fun _ => ?_⟩
            refine zx_callVk (c_tellNext l (d + 4) g) k_Main_156 g.k (by decide) rfl rfl (Nat.zero_le _) (Nat.le_of_ble_eq_true rfl) d_Main_rescue_69 ?_
            rintro r h2 ⟨rfl, rfl⟩
            have g2 := g.sw
            refine y_Main_rescue_72 l (d + 4) o _ _ g2.k g2.bR (by omega) g2.r.b.1 ?_
            have z4 : zf [o] I3 (zx_u2 I3 o 9 (I3 o 9 + 1)) := zf_u2 (by simp <;> omega)
            rw [c4, nI_1]
            refine ih (k + 1) v.2 (n + 1) nx tl (fs ++ v.1.2) v.1.1 (sw_RJ RJ o tl nx) _ (by omega) (by omega) c5 g2 (a3.keep z4 (by simp <;> omega) (by simp <;> omega)) (ao3.keep z4 (by simp <;> omega) (by simp <;> omega)) (c6.keep z4 (by simp <;> omega) (by simp <;> omega)) ?_ (by omega) (fun _ => ⟨c7.keep c8.T z4 (fun x hx => by simp only [List.mem_cons, List.not_mem_nil, or_false] at hx; omega), c8⟩) (fun r h2 hp => q r h2 (hp.pre rfl (fun c hc => ?_) (zg_trans z23 (zg_fld (by simp <;> omega)))))
            · rw [zx_u2_s, h93, nI_1]
            · show zx_u2 (zx_u2 RJ.1 o 7 nx) o 8 tl c = _
              rw [zx_u2_off hc, zx_u2_off hc]
          · have hno : ¬ rs_ok fs v.1 = true := fun h => c2 (rs_ok_iff.mp h).2
            simp only [if_neg hno] at q
            exact ⟨_, rfl, fun _ => bad (-14) (by decide) c6 q, fun x => absurd x (by decide)⟩
      · refine ⟨_, rfl, fun _ => ?_, fun x => absurd rfl x⟩
        exact fin fr n tl nx fs B RJ I2 _ _ (by omega) g ao2 af2 h92 hB2 (rs_none 3201 fr m1) (fun r h2 hp => q r h2 (hp.pre rfl (fun _ _ => rfl) z2))
theorem c_crescue (l : Launch) (d : Nat) {RJ : zx_RJ} {tl nx : Nat} {I : zi_I} {fs : List Nat} {B : bk_B} (g : g_Main K RJ o tl nx) (a : a_Row I (o + 1) 400 bs) (ao : a_Row I (o + 3) 4600 os) (af : a_Row I (o + 5) 2000 fs) :
    zx_C l (zx_rm (d + 5) 0 0) M_Main_rescue false [.ref o] (K, I, RJ) (crs_post (rs_go bs 3201 0 [] 0 B) K RJ o I) := by
  have hd := g.d
  refine zx_C.of (by decide) (fun α => Nat.le_of_ble_eq_true rfl) (y_Main_rescue_0 l (d + 4) o g.k g.fR (by omega) g.f.1 (zi_mono (c_Row_cut (m := 0) l (d + 4) g.f af (by decide)) ?_))
  rintro r I2 ⟨rfl, a2, z2⟩
  rw [List.take_zero] at a2
  have z3 : zf [o] I2 (zx_u2 I2 o 9 0) := zf_u2 (by simp <;> omega)
  have zz : zg o [9] (cr_S o) I (zx_u2 I2 o 9 0) := zg_trans (I2 := I2) ⟨fun i _ => zf_at z2 (by simp <;> omega) i, zf_mono z2 (fun x hx => by
    rw [List.mem_cons, crs_mem]
    simp only [List.mem_cons, List.not_mem_nil, or_false] at hx
    omega)⟩ (zg_fld (by simp <;> omega))
  refine ⟨rfl, t_crs17 (bs := bs) (os := os) l d 3200 0 0 0 tl nx [] B RJ _ (by omega) (by omega) (by omega) g ((a.keep z2 (by simp <;> omega) (by simp <;> omega)).keep z3 (by simp <;> omega) (by simp <;> omega)) ((ao.keep z2 (by simp <;> omega) (by simp <;> omega)).keep z3 (by simp <;> omega) (by simp <;> omega)) (a2.keep z3 (by simp <;> omega) (by simp <;> omega)) (by rw [zx_u2_s]; rfl) (by omega) (fun h => absurd h (by omega)) (fun r h2 hp => hp.pre rfl (fun _ _ => rfl) zz)⟩
end CRS
