/-! The reference rescues. -/
section MRS
variable {K : zx_Kt} {RJ : zx_RJ} {m : Nat} {bs : List Nat}
theorem rs_ok_iff {fs : List Nat} {v : bk_B × List Nat} : rs_ok fs v = true ↔ (¬ 2000 < fs.length + v.2.length) ∧ cr_fn (fun k => v.2.getD k 0) 0 v.2.length 65535 = v.1.ch := by
  unfold rs_ok
  rw [Bool.and_eq_true, decide_eq_true_iff, decide_eq_true_iff]
def mrs_post (v : st_V) (m : Nat) (r : Option Value) (I I2 : zi_I) : Prop := r = some (.int (nI v.2.1)) ∧ I2 m 0 = 0 ∧ aL I2 m 3 (m + 2) v.1 ∧ v.1.length ≤ 2000 ∧ I2 m 34 = nI v.2.1 ∧ v.2.1 ≤ 3300 ∧ (0 < v.2.1 → a_ML I2 m v.2.2 ∧ bk_ok v.2.2) ∧ zg m mu_F (mu_S m) I I2 ∧ I2 m 10 = I m 10
theorem t_mrs17 (l : Launch) (d : Nat) {Q : zi_Q} (g : g_Mod K RJ m) :
    ∀ (j k n : Nat) (fs : List Nat) (B : bk_B) (I : zi_I), 3201 ≤ k + j → k ≤ 8 * bs.length + 1 → n ≤ k → a_In I m bs → I m 0 = 0 → aL I m 5 (m + 3) fs → fs.length ≤ 2000 → I m 34 = nI n → (0 < n → a_ML I m B ∧ bk_ok B) →
      (∀ r I2, mrs_post (rs_go bs j k fs n B) m r I I2 → Q r I2) →
      zi_X l (zx_rm (d + 5) 0 0) M_Mod_rescue K RJ Q 17 [(0, .ref m), (1, .int (nI k))] [] I := by
  intro j
  induction j with
  | zero =>
    intro k n fs B I hj hk hn a h0 af hfs h34 hB q
    have hbl := a.1
    refine r_Mod_rescue_17 l (d + 4) m _ g.1 ⟨fun _ => zi_mono (c_takeOver l (d + 4) g (by omega) af) ?_, fun c => ?_⟩
    · rintro r I2 ⟨rfl, t1, t2⟩
      have e34 : I2 m 34 = nI n := by rw [t2.1 34 (by simp)]; exact h34
      rw [e34]
      exact ⟨rfl, q _ I2 ⟨rfl, by rw [t2.1 0 (by simp)]; exact h0, t1, hfs, e34, by show n ≤ 3300; omega, fun h => ⟨(hB h).1.keep t2 (by simp) (by simp), (hB h).2⟩, zg_mono t2 (by unfold mu_F; simp) (by unfold mu_S; simp), t2.1 10 (by simp)⟩⟩
    · rw [a.2.1, show (8 : Int32) * nI bs.length = nI (8 * bs.length) by rw [show (8 : Int32) = nI 8 from rfl, pk_mul], show (24 : Int32) = nI 24 from rfl, nI_add, nI_ltI (by omega) (by omega)] at c
      omega
  | succ j ih =>
    intro k n fs B I hj hk hn a h0 af hfs h34 hB q
    have hbl := a.1
    have b24 := bn_lt bs k (k := 24) (by decide)
    rw [rs_s] at q
    -- one bit on
    have nextI : ∀ I2, zg m ms_F (ms_S m) I I2 → I2 m 0 = 0 → aL I2 m 5 (m + 3) fs → k + 24 ≤ 8 * bs.length → (∀ r I3, mrs_post (rs_go bs j (k + 1) fs n B) m r I I3 → Q r I3) → zi_X l (zx_rm (d + 5) 0 0) M_Mod_rescue K RJ Q 122 [(0, .ref m), (1, .int (nI k)), (2, .int 0)] [] I2 := fun I2 z h02 af2 hk2 q2 => by
      refine r_Mod_rescue_122 l (d + 4) m _ _ g.1 ⟨fun _ => r_Mod_rescue_136 l (d + 4) m _ _ _ ?_, fun x => absurd rfl x⟩
      rw [nI_1]
      refine ih (k + 1) n fs B I2 (by omega) (by omega) (by omega) (a.keepg z (by unfold ms_F; simp) (by unfold ms_S; simp)) h02 af2 hfs (by rw [z.1 34 (by unfold ms_F; simp)]; exact h34) (fun h => ⟨(hB h).1.keep z (by unfold ms_F; simp) (by unfold ms_S; simp), (hB h).2⟩) (fun r I3 hq => q2 r I3 ?_)
      obtain ⟨q1, q2, q3, q4, q5, q6, q7, q8, q9⟩ := hq
      exact ⟨q1, q2, q3, q4, q5, q6, q7, zg_trans (zg_mono z (fun x hx => by unfold mu_F; simp [hx]) (fun x hx => by unfold mu_S; simp [hx])) q8, by rw [q9, z.1 10 (by unfold ms_F; simp)]⟩
    refine r_Mod_rescue_17 l (d + 4) m _ g.1 ?_
    rw [a.2.1, show (8 : Int32) * nI bs.length = nI (8 * bs.length) by rw [show (8 : Int32) = nI 8 from rfl, pk_mul], show (24 : Int32) = nI 24 from rfl, nI_add, nI_ltI (by omega) (by omega)]
    refine ⟨fun c => ?_, fun c => ?_⟩
    · rw [if_neg (by omega)] at q
      refine zi_mono (c_takeOver l (d + 4) g (by omega) af) ?_
      rintro r I2 ⟨rfl, t1, t2⟩
      have e34 : I2 m 34 = nI n := by rw [t2.1 34 (by simp)]; exact h34
      rw [e34]
      exact ⟨rfl, q _ I2 ⟨rfl, by rw [t2.1 0 (by simp)]; exact h0, t1, hfs, e34, by show n ≤ 3300; omega, fun h => ⟨(hB h).1.keep t2 (by simp) (by simp), (hB h).2⟩, zg_mono t2 (by unfold mu_F; simp) (by unfold mu_S; simp), t2.1 10 (by simp)⟩⟩
    · rw [if_pos (by omega)] at q
      have z0 : zg m [7, 8] [] I (zx_u2 (zx_u2 I m 7 (nI k)) m 8 0) := zg_trans (zg_fld (by simp)) (zg_fld (by simp))
      refine zi_mono (c_mt (k := 24) (p := k) l (d + 3) g (a.keepg z0 (by simp) (by simp)) (by rw [zx_u2_k (by omega), zx_u2_s]) (by omega) zx_u2_s (by decide)) ?_
      rintro r I2 ⟨⟨v, rfl, hv⟩, z⟩
      have zz : zg m [7, 8, 9] [] I I2 := zg_trans (zg_mono z0 (by simp) (by simp)) z
      have zF : zg m ms_F (ms_S m) I I2 := ms_F_of (by unfold ms_F; simp) (by simp) zz
      have h02 : I2 m 0 = 0 := by rw [zz.1 0 (by simp)]; exact h0
      have af2 : aL I2 m 5 (m + 3) fs := af.keepg zz (by simp) (by omega) (by simp)
      rcases hv with ⟨e1, rfl, e3, e4⟩ | ⟨e1, _⟩
      · refine ⟨_, rfl, fun x => ?_, fun x => ?_⟩
        · rw [show (3227993 : Int32) = nI 3227993 from rfl, nI_eq (by omega) (by omega)] at x
          rw [if_neg x] at q
          exact r_Mod_rescue_58 l (d + 4) m _ _ g.1 ⟨fun _ => r_Mod_rescue_100 l (d + 4) m _ _ g.1 ⟨fun _ => nextI I2 zF h02 af2 e1 q, fun y => absurd rfl y⟩, fun y => absurd rfl y⟩
        · rw [show (3227993 : Int32) = nI 3227993 from rfl, nI_eq (by omega) (by omega)] at x
          rw [if_pos x] at q
          refine r_Mod_rescue_58 l (d + 4) m _ _ g.1 ⟨fun y => absurd y (by decide), fun _ => zi_mono (c_mreadBlock (bs := bs) (p := k + 24) (lim := 64) l d g (by decide) (a.keepg zz (by simp) (by simp)) e3 e1 e4) ?_⟩
          rintro r I4 ⟨rfl, p4, h20, z4⟩
          have z4F : zg m ms_F (ms_S m) I I4 := zg_trans zF (ms_F_of (by unfold ms_F mr_F; simp) (by unfold ms_S mr_S; simp) z4)
          have h04 : I4 m 0 = 0 := by rw [z4.1 0 (by unfold mr_F; simp)]; exact h02
          have af4 : aL I4 m 5 (m + 3) fs := af2.keepg z4 (by unfold mr_F; simp) (by omega) (by unfold mr_S; simp)
          have no : (∀ r I3, mrs_post (rs_go bs j (k + 1) fs n B) m r I I3 → Q r I3) → zi_X l (zx_rm (d + 5) 0 0) M_Mod_rescue K RJ Q 98 [(0, .ref m), (1, .int (nI k)), (2, .int 1)] [] I4 := fun q2 => r_Mod_rescue_98 l (d + 4) m _ _ (r_Mod_rescue_99 l (d + 4) m _ _ _ (r_Mod_rescue_100 l (d + 4) m _ _ g.1 ⟨fun _ => nextI I4 z4F h04 af4 e1 q2, fun y => absurd rfl y⟩))
          cases e : rd_block bs 64 (k + 24) with
          | inl f =>
            rw [e] at p4 q
            have n4 : ¬ I4 m 8 = 0 := by rw [p4.1]; exact p4.2.2.1
            exact ⟨rfl, fun _ => no q, fun y => absurd y n4⟩
          | inr v =>
            rw [e] at p4 q
            simp only at q
            obtain ⟨k1, k2, k3, k4, k5, k6⟩ := p4
            obtain ⟨l1, l2⟩ := rd_block_len (v := v.1) (q := v.2) (by decide) e
            have hge := rd_block_ge (v := v.1) (q := v.2) e
            have hch := k5.ch
            refine ⟨rfl, fun y => absurd k1 y, fun _ => zi_mono (c_tooMuch (fs := fs) (out := v.1.2) l (d + 4) g (by omega) k6.1 af4.1) ?_⟩
            rintro r I5 ⟨rfl, rfl⟩
            by_cases full : 2000 < fs.length + v.1.2.length
            · rw [if_neg (fun h => (rs_ok_iff.mp h).1 full)] at q
              rw [if_pos full]
              exact ⟨_, rfl, fun _ => no q, fun y => absurd y (by decide)⟩
            · rw [if_neg full]
              refine ⟨_, rfl, fun y => absurd rfl y, fun _ => zi_mono (c_mcheckOf (f := fun k => v.1.2.getD k 0) (n := v.1.2.length) l (d + 3) g (by omega) k6.1 k6.2 (fun k hk => l2 _ (getD_mem hk))) ?_⟩
              rintro r I6 ⟨rfl, rfl⟩
              have hcr : cr_fn (fun k => v.1.2.getD k 0) 0 v.1.2.length 65535 < 65536 := cr_fn_lt _ _ _ (by decide) (fun k _ h => l2 _ (getD_mem (by omega)))
              refine ⟨_, rfl, ?_⟩
              rw [k4.ch, nI_eq (by omega) (by omega)]
              refine ⟨fun w => ?_, fun w => ?_⟩
              · rw [if_neg (fun h => w (rs_ok_iff.mp h).2)] at q
                exact no q
              · rw [if_pos (rs_ok_iff.mpr ⟨full, w⟩)] at q
                refine r_Mod_rescue_99 l (d + 4) m _ _ _ (r_Mod_rescue_100 l (d + 4) m _ _ g.1 ⟨fun y => absurd y (by decide), fun _ => zi_mono (c_maddBytes (fs := fs) (out := v.1.2) l (d + 4) g (by omega) (by omega) k6 af4) ?_⟩)
                rintro r I7 ⟨rfl, u1, u2⟩
                refine ⟨rfl, zi_mono (c_remember (B := v.1.1) l (d + 4) g k5 (k4.keep u2 (by simp) (by simp))) ?_⟩
                rintro r I8 ⟨rfl, w1, w2⟩
                have h348 : I8 m 34 = nI n := by rw [w2.1 34 (by unfold ml_F; simp), u2.1 34 (by simp), z4F.1 34 (by unfold ms_F; simp)]; exact h34
                have h78 : I8 m 7 = nI v.2 := by rw [w2.1 7 (by unfold ml_F; simp), u2.1 7 (by simp)]; exact k2
                refine ⟨rfl, ?_⟩
                rw [h348, nI_1]
                refine r_Mod_rescue_122 l (d + 4) m _ _ g.1 ⟨fun y => absurd y (by decide), fun _ => r_Mod_rescue_136 l (d + 4) m _ _ _ ?_⟩
                rw [zx_u2_k (by omega), h78]
                have z9 : zg m [34] [] I8 (zx_u2 I8 m 34 (nI (n + 1))) := zg_fld (by simp)
                have z9F : zg m mu_F (mu_S m) I (zx_u2 I8 m 34 (nI (n + 1))) := zg_trans (zg_trans (zg_trans (zg_mono z4F (fun x hx => by unfold mu_F; simp [hx]) (fun x hx => by unfold mu_S; simp [hx])) (zg_mono u2 (fun x hx => by unfold mu_F ms_F; simp only [List.mem_cons, List.not_mem_nil, or_false] at hx; simp [hx]) (fun x hx => by unfold mu_S ms_S; simp only [List.mem_cons, List.not_mem_nil, or_false] at hx; simp [hx]))) (zg_mono w2 (fun x hx => by unfold mu_F; simp [hx]) (fun x hx => by unfold mu_S; simp only [List.mem_cons, List.not_mem_nil, or_false] at hx ⊢; omega))) (zg_fld (by unfold mu_F; simp))
                refine ih v.2 (n + 1) (fs ++ v.1.2) v.1.1 _ (by omega) (by omega) (by omega) (a.keepg z9F (by unfold mu_F ms_F ml_F; simp) (by unfold mu_S ms_S; simp)) (by rw [zx_u2_k (by omega), w2.1 0 (by unfold ml_F; simp), u2.1 0 (by simp)]; exact h04) ((u1.keepg w2 (by unfold ml_F; simp) (by omega) (by simp)).keepg z9 (by simp) (by omega) (by simp)) (by rw [List.length_append]; omega) zx_u2_s (fun _ => ⟨w1.keep z9 (by simp) (by simp), k5⟩) (fun r I9 hq => q r I9 ?_)
                obtain ⟨q1, q2, q3, q4, q5, q6, q7, q8, q9⟩ := hq
                exact ⟨q1, q2, q3, q4, q5, q6, q7, zg_trans z9F q8, by rw [q9, zx_u2_k (by omega), w2.1 10 (by unfold ml_F; simp), u2.1 10 (by simp), z4F.1 10 (by unfold ms_F; simp)]⟩
      · exact absurd (show k + 24 ≤ 8 * bs.length by omega) e1
theorem c_mrescue (l : Launch) (d : Nat) {I : zi_I} {B : bk_B} (g : g_Mod K RJ m) (a : a_In I m bs) :
    zi_C l (zx_rm (d + 5) 0 0) M_Mod_rescue [.ref m] K RJ I (fun r I2 => mrs_post (rs_go bs 3201 0 [] 0 B) m r I I2) := by
  refine zi_of (by decide) (fun α => Nat.le_of_ble_eq_true rfl) (r_Mod_rescue_0 l (d + 4) m g.1 ?_)
  have z : zg m [0, 5, 34] [] I (zx_u2 (zx_u2 (zx_u2 I m 0 0) m 5 0) m 34 0) := zg_trans (zg_trans (zg_fld (by simp)) (zg_fld (by simp))) (zg_fld (by simp))
  refine t_mrs17 (bs := bs) l d g 3201 0 0 [] B _ (by omega) (by omega) (by omega) (a.keepg z (by simp) (by simp)) (by rw [zx_u2_k (by omega), zx_u2_k (by omega), zx_u2_s]) ⟨by rw [zx_u2_k (by omega), zx_u2_s]; rfl, fun i hi => absurd hi (Nat.not_lt_zero _)⟩ (by simp) (by rw [zx_u2_s]; rfl) (fun h => absurd h (by omega)) (fun r I2 hq => ?_)
  obtain ⟨q1, q2, q3, q4, q5, q6, q7, q8, q9⟩ := hq
  exact ⟨q1, q2, q3, q4, q5, q6, q7, zg_trans (zg_mono z (by unfold mu_F ms_F; simp) (by simp)) q8, by rw [q9, z.1 10 (by simp)]⟩
end MRS
