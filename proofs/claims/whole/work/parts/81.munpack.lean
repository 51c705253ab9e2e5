/-! All streams; the reference unpacks. -/
theorem rd_str_ge {bs : List Nat} {lv : Nat} {v : st_V × Nat} : ∀ (j tot : Nat) (fs : List Nat) (n : Nat) (B : bk_B) (p : Nat), rd_str bs lv j tot fs n B p = .inr v → n ≤ v.1.2.1 ∧ p + 24 * (v.1.2.1 - n) + 40 ≤ v.2
  | 0, _, _, _, _, _, h => by
    unfold rd_str at h
    exact absurd h (by simp)
  | j + 1, tot, fs, n, B, p, h => by
    rw [rd_str_s] at h
    split at h
    · split at h
      · split at h
        · split at h
          · simp only [Sum.inr.injEq] at h
            subst h
            refine ⟨Nat.le_refl _, ?_⟩
            dsimp only
            omega
          · exact absurd h (by simp)
        · exact absurd h (by simp)
      · split at h
        · cases e : rd_block bs (8 * lv) (p + 24) with
          | inl f =>
            rw [e] at h
            exact absurd h (by simp)
          | inr w =>
            rw [e] at h
            simp only at h
            have hge := rd_block_ge (v := w.1) (q := w.2) e
            split at h
            · exact absurd h (by simp)
            · split at h
              · obtain ⟨h1, h2⟩ := rd_str_ge j _ _ _ _ _ h
                exact ⟨by omega, by omega⟩
              · exact absurd h (by simp)
        · exact absurd h (by simp)
    · exact absurd h (by simp)
theorem rd_stream_ge {bs : List Nat} {fs : List Nat} {n : Nat} {B : bk_B} {p : Nat} {v : st_V × Nat} (h : rd_stream bs fs n B p = .inr v) : n ≤ v.1.2.1 ∧ p + 24 * (v.1.2.1 - n) + 64 ≤ v.2 := by
  unfold rd_stream at h
  cases e : rd_head bs p with
  | inl f =>
    rw [e] at h
    exact absurd h (by simp)
  | inr w =>
    rw [e] at h
    obtain ⟨t1, t2, t3, t4⟩ := rd_head_ok (v := w.1) (q := w.2) e
    obtain ⟨h1, h2⟩ := rd_str_ge 3200 _ _ _ _ _ h
    exact ⟨h1, by omega⟩
def rd_all (bs : List Nat) : Nat → List Nat → Nat → bk_B → Nat → rd_R st_V
  | 0, _, _, _, p => .inl (-3, p)
  | j + 1, fs, n, B, p => match rd_stream bs fs n B p with
    | .inl e => .inl e
    | .inr v => if 8 * bs.length ≤ v.2 then .inr v else rd_all bs j v.1.1 v.1.2.1 v.1.2.2 v.2
theorem rd_all_s (bs : List Nat) (j : Nat) (fs : List Nat) (n : Nat) (B : bk_B) (p : Nat) : rd_all bs (j + 1) fs n B p = match rd_stream bs fs n B p with
    | .inl e => .inl e
    | .inr v => if 8 * bs.length ≤ v.2 then .inr v else rd_all bs j v.1.1 v.1.2.1 v.1.2.2 v.2 := rfl
section MUP
variable {K : zx_Kt} {RJ : zx_RJ} {m : Nat} {bs : List Nat}
def mu_F : List Nat := 3 :: 10 :: 34 :: (ms_F ++ ml_F)
def mu_S (m : Nat) : List Nat := (m + 2) :: (m + 17) :: (m + 18) :: (m + 19) :: (m + 20) :: ms_S m
/-- how the reference's unpack ends -/
def mu_post (rd : rd_R st_V) (m : Nat) (r : Option Value) (I I2 : zi_I) : Prop :=
  match rd with
  | .inl e => ((e.1 = 1 ∧ r = some (.int 0) ∧ I2 m 0 = 1 ∧ I2 m 10 = -1) ∨ (e.1 ≠ 1 ∧ e.1 ≠ 0 ∧ r = some (.int e.1) ∧ I2 m 0 = 0 ∧ I2 m 10 = nI e.2)) ∧ zg m (10 :: ms_F) (ms_S m) I I2
  | .inr v => r = some (.int (nI v.1.1.length)) ∧ I2 m 0 = 0 ∧ I2 m 10 = -1 ∧ aL I2 m 3 (m + 2) v.1.1 ∧ I2 m 34 = nI v.1.2.1 ∧ (0 < v.1.2.1 → a_ML I2 m v.1.2.2 ∧ bk_ok v.1.2.2) ∧ zg m mu_F (mu_S m) I I2
theorem t_mun29 (l : Launch) (d : Nat) {Q : zi_Q} (g : g_Mod K RJ m) :
    ∀ (j k n p : Nat) (fs : List Nat) (B : bk_B) (I : zi_I), k + j = 400 → 64 * k ≤ p → 24 * n ≤ p → p ≤ 8 * bs.length → a_In I m bs → I m 0 = 0 → I m 10 = -1 → I m 7 = nI p → I m 8 = 0 → aL I m 5 (m + 3) fs → fs.length ≤ 2000 → (0 < n → a_MB I m B ∧ bk_ok B) →
      (∀ r I2, mu_post (rd_all bs j fs n B p) m r I I2 → Q r I2) →
      zi_X l (zx_rm (d + 6) 0 0) M_Mod_unpack K RJ Q 29 [(0, .ref m), (1, .int (nI n)), (2, .int 1)] [] I := by
  intro j
  induction j with
  | zero =>
    intro k n p fs B I hk hkp hn hp a h0 h10 h7 h8 af hfs hB q
    have hbl := a.1
    omega
  | succ j ih =>
    intro k n p fs B I hk hkp hn hp a h0 h10 h7 h8 af hfs hB q
    have hbl := a.1
    rw [rd_all_s] at q
    refine r_Mod_unpack_29 l (d + 5) m _ _ g.1 ⟨fun x => absurd x (by decide), fun _ => zi_mono (c_mreadStream (bs := bs) (p := p) (n0 := n) (fs := fs) (B := B) l d g a h0 h7 hp h8 af hfs hB) ?_⟩
    rintro r I2 ⟨hr, z⟩
    have z10 : I2 m 10 = -1 := by rw [z.1 10 (by unfold ms_F; simp)]; exact h10
    have zm : zg m (10 :: ms_F) (ms_S m) I I2 := zg_mono z (fun x hx => List.mem_cons_of_mem _ hx) (fun x hx => hx)
    cases e : rd_stream bs fs n B p with
    | inl f =>
      rw [e] at hr q
      obtain ⟨⟨x, rfl⟩, hf⟩ := hr
      refine ⟨_, rfl, ?_⟩
      rcases hf with ⟨f1, f2, f3⟩ | ⟨f1, f2, f3, f4, f5⟩
      · -- too many bytes
        have stop : zi_X l (zx_rm (d + 6) 0 0) M_Mod_unpack K RJ Q 29 [(0, .ref m), (1, .int (nI n + x)), (2, .int 0)] [] I2 := by
          refine r_Mod_unpack_29 l (d + 5) m _ _ g.1 ⟨fun _ => ⟨fun y => absurd (f2.symm.trans y) (by decide), fun _ => q _ I2 ⟨Or.inl ⟨f1, rfl, f2, z10⟩, zm⟩⟩, fun y => absurd rfl y⟩
        exact ⟨fun y => absurd f3 y, fun _ => ⟨fun _ => stop, fun y => absurd (f2.symm.trans y) (by decide)⟩⟩
      · have n8 : ¬ I2 m 8 = 0 := by rw [f4]; exact f2
        have stop : zi_X l (zx_rm (d + 6) 0 0) M_Mod_unpack K RJ Q 29 [(0, .ref m), (1, .int (nI n + x)), (2, .int 0)] [] I2 := by
          refine r_Mod_unpack_29 l (d + 5) m _ _ g.1 ⟨fun _ => ⟨fun _ => ⟨fun y => absurd y n8, fun _ => ?_⟩, fun y => absurd f3 y⟩, fun y => absurd rfl y⟩
          rw [f4, f5]
          exact q _ _ ⟨Or.inr ⟨f1, f2, rfl, by rw [zx_u2_k (by omega)]; exact f3, zx_u2_s⟩, zg_trans zm (zg_fld (by simp))⟩
        exact ⟨fun _ => stop, fun y => absurd y n8⟩
    | inr v =>
      obtain ⟨hg1, hg2⟩ := rd_stream_ge e
      rw [e] at hr q
      simp only at q
      obtain ⟨c, c0, cc, rfl, c1, c2, c3, c4, c5, c6, c7⟩ := hr
      have en : nI n + nI c = nI v.1.2.1 := by rw [nI_add, c0]
      refine ⟨_, rfl, fun y => absurd c2 y, fun _ => ⟨fun y => absurd c1 y, fun _ => ?_⟩⟩
      have a2 := a.keepg z (by unfold ms_F; simp) (by unfold ms_S; simp)
      rw [a2.2.1, c3, show (8 : Int32) * nI bs.length = nI (8 * bs.length) by rw [show (8 : Int32) = nI 8 from rfl, pk_mul], nI_leI (by omega) (by omega), en]
      refine ⟨fun y => ?_, fun y => ?_⟩
      · rw [if_pos y] at q
        refine r_Mod_unpack_29 l (d + 5) m _ _ g.1 ⟨fun _ => ⟨fun _ => ⟨fun _ => zi_mono (c_takeOver l (d + 5) g (by omega) c5) ?_, fun w => absurd c2 w⟩, fun w => absurd c1 w⟩, fun w => absurd rfl w⟩
        rintro r I3 ⟨rfl, t1, t2⟩
        have z3 : zg m mu_F (mu_S m) I (zx_u2 I3 m 34 (nI v.1.2.1)) := zg_trans (zg_trans (zg_mono z (fun x hx => by unfold mu_F; simp [hx]) (fun x hx => by unfold mu_S; simp [hx])) (zg_mono t2 (fun x hx => by unfold mu_F; simp only [List.mem_cons, List.not_mem_nil, or_false] at hx; simp [hx]) (fun x hx => by unfold mu_S; simp only [List.mem_cons, List.not_mem_nil, or_false] at hx; simp [hx]))) (zg_fld (by unfold mu_F; simp))
        have z34 : zg m [34] [] I3 (zx_u2 I3 m 34 (nI v.1.2.1)) := zg_fld (by simp)
        refine ⟨rfl, fun w => ?_, fun w => ?_⟩
        · rw [show (0 : Int32) = nI 0 from rfl, nI_leI (by omega) (by omega)] at w
          rw [t1.1]
          exact q _ _ ⟨rfl, by rw [zx_u2_k (by omega), t2.1 0 (by simp)]; exact c1, by rw [zx_u2_k (by omega), t2.1 10 (by simp)]; exact z10, t1.keepg z34 (by simp) (by omega) (by simp), zx_u2_s, fun h => absurd h (by omega), z3⟩
        · rw [show (0 : Int32) = nI 0 from rfl, nI_leI (by omega) (by omega)] at w
          obtain ⟨b1, b2⟩ := c7 (by omega)
          have zz : zg m [3, 34] [m + 2] I2 (zx_u2 I3 m 34 (nI v.1.2.1)) := zg_trans (zg_mono t2 (by simp) (by simp)) (zg_fld (by simp))
          refine zi_mono (c_remember (B := v.1.2.2) l (d + 5) g b2 (b1.keep zz (by simp) (by simp))) ?_
          rintro r I4 ⟨rfl, u1, u2⟩
          have e3 : I4 m 3 = nI v.1.1.length := by rw [u2.1 3 (by unfold ml_F; simp), zx_u2_k (by omega)]; exact t1.1
          rw [e3]
          refine ⟨rfl, q _ I4 ⟨rfl, by rw [u2.1 0 (by unfold ml_F; simp), zx_u2_k (by omega), t2.1 0 (by simp)]; exact c1, by rw [u2.1 10 (by unfold ml_F; simp), zx_u2_k (by omega), t2.1 10 (by simp)]; exact z10, ⟨e3, fun i hi => ?_⟩, by rw [u2.1 34 (by unfold ml_F; simp), zx_u2_s], fun _ => ⟨u1, b2⟩, zg_trans z3 (zg_mono u2 (fun x hx => by unfold mu_F; simp [hx]) (fun x hx => by unfold mu_S; simp only [List.mem_cons, List.not_mem_nil, or_false] at hx ⊢; omega))⟩⟩
          rw [zg_cell u2 (by omega) (by simp), zx_u2_ne (by omega)]
          exact t1.2 i hi
      · rw [if_neg y] at q
        exact ih (k + 1) v.1.2.1 v.2 v.1.1 v.1.2.2 I2 (by omega) (by omega) (by omega) c4 a2 c1 z10 c3 c2 c5 c6 c7 (fun r I3 hq => q r I3 (by
          cases e2 : rd_all bs j v.1.1 v.1.2.1 v.1.2.2 v.2 with
          | inl f =>
            rw [e2] at hq
            exact ⟨hq.1, zg_trans zm hq.2⟩
          | inr w =>
            rw [e2] at hq
            obtain ⟨q1, q2, q3, q4, q5, q6, q7⟩ := hq
            exact ⟨q1, q2, q3, q4, q5, q6, zg_trans (zg_mono z (fun x hx => by unfold mu_F; simp [hx]) (fun x hx => by unfold mu_S; simp [hx])) q7⟩))
theorem c_munpack (l : Launch) (d : Nat) {I : zi_I} {B : bk_B} (g : g_Mod K RJ m) (a : a_In I m bs) :
    zi_C l (zx_rm (d + 6) 0 0) M_Mod_unpack [.ref m] K RJ I (fun r I2 => mu_post (rd_all bs 400 [] 0 B 0) m r I I2) := by
  refine zi_of (by decide) (fun α => Nat.le_of_ble_eq_true rfl) (r_Mod_unpack_0 l (d + 5) m g.1 ?_)
  generalize hI1 : zx_u2 (zx_u2 (zx_u2 (zx_u2 (zx_u2 I m 0 0) m 10 (-1)) m 7 0) m 8 0) m 5 0 = I1
  have z : zg m [0, 5, 7, 8, 10] [] I I1 := by
    rw [← hI1]
    have f : ∀ {j : Nat} {v : Int32} {J : zi_I}, j ∈ [0, 5, 7, 8, 10] → zg m [0, 5, 7, 8, 10] [] J (zx_u2 J m j v) := fun {_ _ _} h => zg_fld h
    exact zg_trans (zg_trans (zg_trans (zg_trans (f (by simp)) (f (by simp))) (f (by simp))) (f (by simp))) (f (by simp))
  have v0 : I1 m 0 = 0 := by rw [← hI1]; simp [zx_u2]
  have v10 : I1 m 10 = -1 := by rw [← hI1]; simp [zx_u2]
  have v7 : I1 m 7 = nI 0 := by rw [← hI1]; simp [zx_u2]; rfl
  have v8 : I1 m 8 = 0 := by rw [← hI1]; simp [zx_u2]
  have v5 : I1 m 5 = nI 0 := by rw [← hI1]; simp [zx_u2]; rfl
  refine t_mun29 (bs := bs) l d g 400 0 0 0 [] B I1 (by omega) (by omega) (by omega) (by omega) (a.keepg z (by simp) (by simp)) v0 v10 v7 v8 ⟨v5, fun i hi => absurd hi (Nat.not_lt_zero _)⟩ (by simp) (fun h => absurd h (by omega)) (fun r I2 hq => ?_)
  cases e2 : rd_all bs 400 [] 0 B 0 with
  | inl f =>
    rw [e2] at hq
    exact ⟨hq.1, zg_trans (zg_mono z (by unfold ms_F; simp) (by simp)) hq.2⟩
  | inr w =>
    rw [e2] at hq
    obtain ⟨q1, q2, q3, q4, q5, q6, q7⟩ := hq
    exact ⟨q1, q2, q3, q4, q5, q6, zg_trans (zg_mono z (by unfold mu_F ms_F; simp) (by simp)) q7⟩
end MUP
