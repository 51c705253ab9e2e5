/-! The reference reads a block. -/
def mrb_post (rd : rd_R (bk_B × List Nat)) (n8 m : Nat) (I2 : zi_I) : Prop :=
  match rd with
  | .inl e => I2 m 8 = e.1 ∧ I2 m 9 = nI e.2 ∧ e.1 ≠ 0 ∧ ∃ p2, p2 ≤ n8 ∧ I2 m 7 = nI p2
  | .inr v => I2 m 8 = 0 ∧ I2 m 7 = nI v.2 ∧ v.2 ≤ n8 ∧ a_MB I2 m v.1.1 ∧ bk_ok v.1.1 ∧ aL I2 m 12 (m + 4) v.1.2
def mr_F : List Nat := [7, 8, 9, 12, 14, 17, 19, 20, 21, 22, 25, 28]
def mr_S (m : Nat) : List Nat := [m + 4, m + 5, m + 6, m + 7, m + 8, m + 9, m + 10, m + 11, m + 12, m + 13, m + 14]
theorem nI_toNat {x : Int32} {n : Nat} (hn : n < 2 ^ 32) : x = nI n ↔ x.toBitVec.toNat = n := by
  constructor
  · intro h
    rw [h]
    show (BitVec.ofNat 32 n).toNat = n
    rw [BitVec.toNat_ofNat, Nat.mod_eq_of_lt hn]
  · intro h
    apply zb_inj
    show x.toBitVec = BitVec.ofNat 32 n
    rw [← h, BitVec.ofNat_toNat]
    simp
section MRB
variable {K : zx_Kt} {RJ : zx_RJ} {m p lim : Nat} {bs : List Nat}
theorem c_mcodes_any (l : Launch) (d : Nat) {I : zi_I} {t ks : Nat} (g : g_Mod K RJ m) (ht : t < 4) (hk : ks ≤ 256) (h22 : I m 22 = nI ks) : zi_C l (zx_rm d 0 0) M_Mod_makeCodes [.ref m, .int (nI t)] K RJ I (fun r I2 => r = none ∧ zf [m + 11] I I2) := by
  refine zi_mono (c_makeCodes (f := fun s => (I (m + 10) (260 * t + s)).toBitVec.toNat) (ks := ks) l d g ht hk h22 (fun s _ len _ h2 => nI_toNat (by omega))) ?_
  rintro r I2 ⟨rfl, v1, _⟩
  exact ⟨rfl, v1⟩
theorem t_mr160 (l : Launch) (d : Nat) {Q : zi_Q} {x1 x2 : Int32} {T ks : Nat} (g : g_Mod K RJ m) (hT : T ≤ 4) (hk : ks ≤ 256) :
    ∀ (j t p : Nat) (out : List (List Nat)) (I : zi_I), t + j = T → out.length = t → a_In I m bs → I m 7 = nI p → p ≤ 8 * bs.length → I m 8 = 0 → I m 22 = nI ks → I m 25 = nI T → a_MRt I m (ks + 2) t out →
      (∀ I2 x, md_post (rd_tabs bs (ks + 2) j out p) (8 * bs.length) m I2 (fun L => L.length = T ∧ a_MRt I2 m (ks + 2) T L) → zg m [7, 8, 9] [m + 10, m + 11] I I2 → zi_X l (zx_rm (d + 3) 0 0) M_Mod_readBlock K RJ Q 191 [(0, .ref m), (1, .int x1), (2, .int x2), (3, .int x)] [] I2) →
      zi_X l (zx_rm (d + 3) 0 0) M_Mod_readBlock K RJ Q 160 [(0, .ref m), (1, .int x1), (2, .int x2), (3, .int (nI t))] [] I := by
  intro j
  induction j with
  | zero =>
    intro t p out I ht hl a h7 hp h8 h22 h25 ho q
    obtain rfl : t = T := by omega
    refine r_Mod_readBlock_160 l (d + 2) m _ _ _ g.1 ⟨fun _ => q I _ ⟨h8, h7, hp, hl, ho⟩ zg_refl, fun c => ?_⟩
    rw [h25, nI_leI (by omega) (by omega)] at c
    omega
  | succ j ih =>
    intro t p out I ht hl a h7 hp h8 h22 h25 ho q
    refine r_Mod_readBlock_160 l (d + 2) m _ _ _ g.1 ⟨fun c => ?_, fun _ => ⟨fun c => absurd h8 c, fun _ => zi_mono (c_readTable (t := t) (ks := ks) l d g (by omega) hk a h7 hp h8 h22) ?_⟩⟩
    · rw [h25, nI_leI (by omega) (by omega)] at c
      omega
    · rintro r I2 ⟨rfl, hr, hfr, z⟩
      have hq := q
      unfold rd_tabs at hq
      have h222 : I2 m 22 = nI ks := by rw [z.1 22 (by simp)]; exact h22
      cases e : rd_tab bs (ks + 2) p with
      | inl f =>
        rw [e] at hr hq
        obtain ⟨k1, k2, k3, p2, k4, k5⟩ := hr
        refine ⟨rfl, zi_mono (c_mcodes_any (t := t) (ks := ks) l (d + 2) g (by omega) hk h222) ?_⟩
        rintro r I3 ⟨rfl, z3⟩
        have n3 : ¬ I3 m 8 = 0 := by rw [zf_at z3 (by simp), k1]; exact k3
        have z4 : zg m [7, 8, 9] [m + 10, m + 11] I I3 := zg_trans (zg_mono z (by simp) (by simp)) ⟨fun j _ => zf_at z3 (by simp) j, zf_mono z3 (by simp)⟩
        have fin := hq I3 (nI t + 1) ⟨by rw [zf_at z3 (by simp)]; exact k1, by rw [zf_at z3 (by simp)]; exact k2, k3, p2, k4, by rw [zf_at z3 (by simp)]; exact k5⟩ z4
        exact ⟨rfl, r_Mod_readBlock_160 l (d + 2) m _ _ _ g.1 ⟨fun _ => fin, fun _ => ⟨fun _ => fin, fun c => absurd c n3⟩⟩⟩
      | inr v =>
        obtain ⟨w, p'⟩ := v
        rw [e] at hr hq
        obtain ⟨k1, k2, k3, k4, k5, k6⟩ := hr
        dsimp only at k2 k3 k4 k5 k6
        have hw : ∀ s, s < ks + 2 → 1 ≤ w.getD s 0 ∧ w.getD s 0 ≤ 12 := fun s hs => k6 _ (getD_mem (by omega))
        refine ⟨rfl, zi_mono (c_makeCodes (f := fun s => w.getD s 0) (ks := ks) (t := t) l (d + 2) g (by omega) hk h222 (fun s hs len h1 h2 => ?_)) ?_⟩
        · have := hw s hs
          rw [k5 s hs, nI_eq (by omega) (by omega)]
        · rintro r I3 ⟨rfl, z3, hfr3, hc3⟩
          rw [nI_1]
          have z4 : zg m [7, 8, 9] [m + 10, m + 11] I I3 := zg_trans (zg_mono z (by simp) (by simp)) ⟨fun j _ => zf_at z3 (by simp) j, zf_mono z3 (by simp)⟩
          refine ⟨rfl, ih (t + 1) p' (out ++ [w]) I3 (by omega) (by rw [List.length_append, List.length_singleton, hl]) (a.keepg z4 (by simp) (by simp)) (by rw [zf_at z3 (by simp)]; exact k2) k3 (by rw [zf_at z3 (by simp)]; exact k1) (by rw [z4.1 22 (by simp)]; exact h22) (by rw [z4.1 25 (by simp)]; exact h25) (fun t' ht' => ?_) (fun I4 x y1 y2 => hq I4 x y1 (zg_trans z4 y2))⟩
          by_cases e2 : t' = t
          · have ef : rd_tb (out ++ [w]) t' = fun s => w.getD s 0 := by
              funext s
              rw [e2, ← hl]
              exact rd_tb_new
            rw [ef, e2]
            refine ⟨fun s hs => ?_, fun s hs => hc3 s hs (hw s hs).1 (hw s hs).2, hw⟩
            rw [zf_at z3 (by simp)]
            exact k5 s hs
          · rw [rd_tb_old (by omega)]
            obtain ⟨o1, o2, o3⟩ := ho t' (by omega)
            refine ⟨fun s hs => ?_, fun s hs => ?_, o3⟩
            · rw [zf_at z3 (by simp), hfr _ (by omega)]
              exact o1 s hs
            · rw [hfr3 _ (by omega), zg_cell z (by omega) (by simp)]
              exact o2 s hs
theorem c_mreadBlock (l : Launch) (d : Nat) {I : zi_I} (g : g_Mod K RJ m) (hlim : lim ≤ 64) (a : a_In I m bs) (h7 : I m 7 = nI p) (hp : p ≤ 8 * bs.length) (h8 : I m 8 = 0) :
    zi_C l (zx_rm (d + 4) 0 0) M_Mod_readBlock [.ref m, .int (nI lim)] K RJ I (fun r I2 => r = none ∧ mrb_post (rd_block bs lim p) (8 * bs.length) m I2 ∧ I2 m 20 = nI p ∧ zg m mr_F (mr_S m) I I2) := by
  have hbl := a.1
  -- from a fault on
  have f191 : ∀ (I2 : zi_I) (x2 x3 : Int32) (e : Int32 × Nat), rd_block bs lim p = .inl e → I2 m 8 = e.1 → I2 m 9 = nI e.2 → e.1 ≠ 0 → (∃ p2, p2 ≤ 8 * bs.length ∧ I2 m 7 = nI p2) → I2 m 20 = nI p → zg m mr_F (mr_S m) I I2 → zi_X l (zx_rm (d + 4) 0 0) M_Mod_readBlock K RJ (fun r I2 => r = none ∧ mrb_post (rd_block bs lim p) (8 * bs.length) m I2 ∧ I2 m 20 = nI p ∧ zg m mr_F (mr_S m) I I2) 191 [(0, .ref m), (1, .int (nI lim)), (2, .int x2), (3, .int x3)] [] I2 := fun I2 x2 x3 e he k1 k2 k3 k4 k5 k6 => by
    refine r_Mod_readBlock_191 l (d + 3) m _ _ _ g.1 ⟨fun c => absurd (k1.symm.trans c) k3, fun _ => ⟨rfl, ?_, k5, k6⟩⟩
    rw [he]
    exact ⟨k1, k2, k3, k4⟩
  have f158 : ∀ (I2 : zi_I) (x2 : Int32) (e : Int32 × Nat), rd_block bs lim p = .inl e → I2 m 8 = e.1 → I2 m 9 = nI e.2 → e.1 ≠ 0 → (∃ p2, p2 ≤ 8 * bs.length ∧ I2 m 7 = nI p2) → I2 m 20 = nI p → zg m mr_F (mr_S m) I I2 → zi_X l (zx_rm (d + 4) 0 0) M_Mod_readBlock K RJ (fun r I2 => r = none ∧ mrb_post (rd_block bs lim p) (8 * bs.length) m I2 ∧ I2 m 20 = nI p ∧ zg m mr_F (mr_S m) I I2) 158 [(0, .ref m), (1, .int (nI lim)), (2, .int x2)] [] I2 := fun I2 x2 e he k1 k2 k3 k4 k5 k6 => by
    have n8 : ¬ I2 m 8 = 0 := by rw [k1]; exact k3
    have h := fun x3 => f191 I2 x2 x3 e he k1 k2 k3 k4 k5 k6
    exact r_Mod_readBlock_158 l (d + 3) m _ _ (r_Mod_readBlock_160 l (d + 3) m _ _ _ g.1 ⟨fun _ => h _, fun _ => ⟨fun _ => h _, fun c => absurd c n8⟩⟩)
  have f141 : ∀ (I2 : zi_I) (x2 y0 : Int32) (e : Int32 × Nat), rd_block bs lim p = .inl e → I2 m 8 = e.1 → I2 m 9 = nI e.2 → e.1 ≠ 0 → (∃ p2, p2 ≤ 8 * bs.length ∧ I2 m 7 = nI p2) → I2 m 20 = nI p → zg m mr_F (mr_S m) I I2 → zi_X l (zx_rm (d + 4) 0 0) M_Mod_readBlock K RJ (fun r I2 => r = none ∧ mrb_post (rd_block bs lim p) (8 * bs.length) m I2 ∧ I2 m 20 = nI p ∧ zg m mr_F (mr_S m) I I2) 141 [(0, .ref m), (1, .int (nI lim)), (2, .int x2)] [.int y0, .ref m] I2 := fun I2 x2 y0 e he k1 k2 k3 k4 k5 k6 => by
    have n8 : ¬ I2 m 8 = 0 := by rw [k1]; exact k3
    refine r_Mod_readBlock_141 l (d + 3) m _ _ _ m g.1 g.1 (zi_mono (c_fi l (d + 2) g.1) ?_)
    rintro r I3 ⟨rfl, (⟨_, h, _⟩ | ⟨_, rfl⟩)⟩
    · exact absurd h n8
    · exact ⟨rfl, fun _ => f158 I3 x2 e he k1 k2 k3 k4 k5 k6, fun c => absurd c n8⟩
  have f125 : ∀ (I2 : zi_I) (x2 y0 : Int32) (e : Int32 × Nat), rd_block bs lim p = .inl e → I2 m 8 = e.1 → I2 m 9 = nI e.2 → e.1 ≠ 0 → (∃ p2, p2 ≤ 8 * bs.length ∧ I2 m 7 = nI p2) → I2 m 20 = nI p → zg m mr_F (mr_S m) I I2 → zi_X l (zx_rm (d + 4) 0 0) M_Mod_readBlock K RJ (fun r I2 => r = none ∧ mrb_post (rd_block bs lim p) (8 * bs.length) m I2 ∧ I2 m 20 = nI p ∧ zg m mr_F (mr_S m) I I2) 125 [(0, .ref m), (1, .int (nI lim)), (2, .int x2)] [.int y0, .ref m] I2 := fun I2 x2 y0 e he k1 k2 k3 k4 k5 k6 => by
    obtain ⟨p2, p3, p4⟩ := k4
    have h := fun y => f141 (zx_u2 I2 m 28 y0) x2 y e he (by rw [zx_u2_k (by omega)]; exact k1) (by rw [zx_u2_k (by omega)]; exact k2) k3 ⟨p2, p3, by rw [zx_u2_k (by omega)]; exact p4⟩ (by rw [zx_u2_k (by omega)]; exact k5) (zg_trans k6 (zg_fld (by unfold mr_F; simp)))
    exact r_Mod_readBlock_125 l (d + 3) m _ _ _ m g.1 g.1 ⟨fun _ => h _, fun _ => h _⟩
  have f95 : ∀ (I2 : zi_I) (x2 y0 : Int32) (e : Int32 × Nat), rd_block bs lim p = .inl e → I2 m 8 = e.1 → I2 m 9 = nI e.2 → e.1 ≠ 0 → (∃ p2, p2 ≤ 8 * bs.length ∧ I2 m 7 = nI p2) → I2 m 20 = nI p → zg m mr_F (mr_S m) I I2 → zi_X l (zx_rm (d + 4) 0 0) M_Mod_readBlock K RJ (fun r I2 => r = none ∧ mrb_post (rd_block bs lim p) (8 * bs.length) m I2 ∧ I2 m 20 = nI p ∧ zg m mr_F (mr_S m) I I2) 95 [(0, .ref m), (1, .int (nI lim)), (2, .int x2)] [.int y0, .ref m] I2 := fun I2 x2 y0 e he k1 k2 k3 k4 k5 k6 => by
    have n8 : ¬ I2 m 8 = 0 := by rw [k1]; exact k3
    refine r_Mod_readBlock_95 l (d + 3) m _ _ _ m g.1 g.1 (zi_mono (c_fi l (d + 2) g.1) ?_)
    rintro r I3 ⟨rfl, (⟨_, h, _⟩ | ⟨_, rfl⟩)⟩
    · exact absurd h n8
    · exact ⟨rfl, fun _ => f125 I3 _ _ e he k1 k2 k3 k4 k5 k6, fun c => absurd c n8⟩
  have f70 : ∀ (I2 : zi_I) (x2 y0 : Int32) (e : Int32 × Nat), rd_block bs lim p = .inl e → I2 m 8 = e.1 → I2 m 9 = nI e.2 → e.1 ≠ 0 → (∃ p2, p2 ≤ 8 * bs.length ∧ I2 m 7 = nI p2) → I2 m 20 = nI p → zg m mr_F (mr_S m) I I2 → zi_X l (zx_rm (d + 4) 0 0) M_Mod_readBlock K RJ (fun r I2 => r = none ∧ mrb_post (rd_block bs lim p) (8 * bs.length) m I2 ∧ I2 m 20 = nI p ∧ zg m mr_F (mr_S m) I I2) 70 [(0, .ref m), (1, .int (nI lim)), (2, .int x2)] [.int y0, .ref m] I2 := fun I2 x2 y0 e he k1 k2 k3 k4 k5 k6 => by
    obtain ⟨p2, p3, p4⟩ := k4
    have h := fun y => f95 (zx_u2 I2 m 25 y0) x2 y e he (by rw [zx_u2_k (by omega)]; exact k1) (by rw [zx_u2_k (by omega)]; exact k2) k3 ⟨p2, p3, by rw [zx_u2_k (by omega)]; exact p4⟩ (by rw [zx_u2_k (by omega)]; exact k5) (zg_trans k6 (zg_fld (by unfold mr_F; simp)))
    exact r_Mod_readBlock_70 l (d + 3) m _ _ _ m g.1 g.1 ⟨fun _ => r_Mod_readBlock_90 l (d + 3) m _ _ m (h _), fun _ => ⟨fun _ => h _, fun _ => r_Mod_readBlock_90 l (d + 3) m _ _ m (h _)⟩⟩
  have f47 : ∀ (I2 : zi_I) (e : Int32 × Nat), rd_block bs lim p = .inl e → I2 m 8 = e.1 → I2 m 9 = nI e.2 → e.1 ≠ 0 → (∃ p2, p2 ≤ 8 * bs.length ∧ I2 m 7 = nI p2) → I2 m 20 = nI p → zg m mr_F (mr_S m) I I2 → zi_X l (zx_rm (d + 4) 0 0) M_Mod_readBlock K RJ (fun r I2 => r = none ∧ mrb_post (rd_block bs lim p) (8 * bs.length) m I2 ∧ I2 m 20 = nI p ∧ zg m mr_F (mr_S m) I I2) 47 [(0, .ref m), (1, .int (nI lim))] [] I2 := fun I2 e he k1 k2 k3 k4 k5 k6 => by
    have n8 : ¬ I2 m 8 = 0 := by rw [k1]; exact k3
    exact r_Mod_readBlock_47 l (d + 3) m _ g.1 ⟨fun _ => f70 I2 _ _ e he k1 k2 k3 k4 k5 k6, fun c => absurd c n8⟩
  have zF : ∀ {F S : List Nat} {I I2 : zi_I}, (∀ j ∈ F, j ∈ mr_F) → (∀ q ∈ S, q ∈ mr_S m) → zg m F S I I2 → zg m mr_F (mr_S m) I I2 := fun {_ _ _ _} h1 h2 z => zg_mono z h1 h2
  -- the numbers
  have z0 : zg m mr_F (mr_S m) I (zx_u2 I m 20 (I m 7)) := zg_fld (by unfold mr_F; simp)
  have z0' : zg m [20] [] I (zx_u2 I m 20 (I m 7)) := zg_fld (by simp)
  have a0 := a.keepg z0' (by simp) (by simp)
  refine zi_of (by decide) (fun α => Nat.le_of_ble_eq_true rfl) (r_Mod_readBlock_0 l (d + 3) m _ g.1 ?_)
  have h70 : zx_u2 I m 20 (I m 7) m 7 = nI p := by rw [zx_u2_k (by omega)]; exact h7
  have h20 : zx_u2 I m 20 (I m 7) m 20 = nI p := by rw [zx_u2_s]; exact h7
  rw [show (Value.int (I m 7)) = Value.int (nI p) by rw [h7]]
  refine zi_mono (c_mt (k := 16) (p := p) l (d + 2) g a0 h70 hp (by rw [zx_u2_k (by omega)]; exact h8) (by decide)) ?_
  rintro r1 I1 ⟨⟨v1, rfl, hv1⟩, z1⟩
  have zz1 := zg_trans z0 (zF (by unfold mr_F; simp) (by simp) z1)
  have h201 : I1 m 20 = nI p := by rw [z1.1 20 (by simp)]; exact h20
  rcases hv1 with ⟨e1, rfl, e3, e4⟩ | ⟨e1, rfl, e3, e4, e5⟩
  rotate_left
  · -- short at the first number
    have hr : rd_block bs lim p = .inl (-2, p) := by
      unfold rd_block rd_nums
      rw [if_neg e1]
      rfl
    have n1 : ¬ I1 m 8 = 0 := by rw [e4]; decide
    have z2 : zg m [19] [] I1 (zx_u2 I1 m 19 (nI 0)) := zg_fld (by simp)
    refine ⟨_, rfl, zi_mono (c_take (k := 6) (p := p) l (d + 2) g (a0.keepg (zg_trans (zg_mono z1 (F2 := [7, 8, 9, 19]) (S2 := []) (by simp) (by simp)) (zg_mono z2 (by simp) (by simp))) (by simp) (by simp)) (by rw [zx_u2_k (by omega)]; exact e3) (by omega) (by decide)) ?_⟩
    rintro r2 I2 (⟨h, _⟩ | ⟨h, _⟩ | ⟨_, rfl, rfl⟩)
    · exact absurd h (by rw [zx_u2_k (by omega)]; exact n1)
    · exact absurd h (by rw [zx_u2_k (by omega)]; exact n1)
    · refine ⟨_, rfl, fun _ => f47 _ (-2, p) hr ?_ ?_ (by dsimp only; decide) ⟨p, hp, ?_⟩ ?_ (zg_trans (zg_trans zz1 (zg_fld (by unfold mr_F; simp))) (zg_fld (by unfold mr_F; simp))), fun c => absurd c (by rw [zx_u2_k (by omega)]; exact n1)⟩
      · rw [zx_u2_k (by omega), zx_u2_k (by omega)]; exact e4
      · rw [zx_u2_k (by omega), zx_u2_k (by omega)]; exact e5
      · rw [zx_u2_k (by omega), zx_u2_k (by omega)]; exact e3
      · rw [zx_u2_k (by omega), zx_u2_k (by omega)]; exact h201
  have z2 : zg m [7, 8, 9, 19, 20] [] I (zx_u2 I1 m 19 (nI (bt_num bs p 16))) := zg_trans (zg_trans (zg_mono z0' (by simp) (by simp)) (zg_mono z1 (by simp) (by simp))) (zg_fld (by simp))
  have a2 := a.keepg z2 (by simp) (by simp)
  refine ⟨_, rfl, ?_⟩
  rw [show (Value.int (I1 m 7)) = Value.int (nI (p + 16)) by rw [e3]]
  refine zi_mono (c_mt (k := 6) (p := p + 16) l (d + 2) g a2 (by rw [zx_u2_k (by omega)]; exact e3) e1 (by rw [zx_u2_k (by omega)]; exact e4) (by decide)) ?_
  rintro r2 I2 ⟨⟨v2, rfl, hv2⟩, z3⟩
  have zz2 : ∀ y, zg m [7, 8, 9, 19, 20, 21] [] I (zx_u2 I2 m 21 y) := fun y => zg_trans (zg_trans (zg_mono z2 (by simp) (by simp)) (zg_mono z3 (by simp) (by simp))) (zg_fld (by simp))
  have h202 : I2 m 20 = nI p := by rw [z3.1 20 (by simp), zx_u2_k (by omega)]; exact h201
  have h192 : I2 m 19 = nI (bt_num bs p 16) := by rw [z3.1 19 (by simp), zx_u2_s]
  rcases hv2 with ⟨g1, rfl, g3, g4⟩ | ⟨g1, rfl, g3, g4, g5⟩
  rotate_left
  · have hr : rd_block bs lim p = .inl (-2, p + 16) := by
      unfold rd_block rd_nums
      rw [if_pos e1, if_neg g1]
      rfl
    have n2 : ¬ I2 m 8 = 0 := by rw [g4]; decide
    refine ⟨_, rfl, fun _ => f47 _ (-2, p + 16) hr ?_ ?_ (by dsimp only; decide) ⟨p + 16, e1, ?_⟩ ?_ (zF (by unfold mr_F; simp) (by simp) (zz2 _)), fun c => absurd c n2⟩
    · rw [zx_u2_k (by omega)]; exact g4
    · rw [zx_u2_k (by omega)]; exact g5
    · rw [zx_u2_k (by omega)]; exact g3
    · rw [zx_u2_k (by omega)]; exact h202
  have en : rd_nums bs p = .inr ((bt_num bs p 16, bt_num bs (p + 16) 6), p + 16 + 6) := by
    unfold rd_nums
    rw [if_pos e1, if_pos g1]
  have ok1 := rd_nums_ok en
  have hb1 : ∀ x, rd_maps bs (p + 16 + 6) = x → rd_block bs lim p = rd_b3 bs lim (bt_num bs p 16) (bt_num bs (p + 16) 6) x := fun x hx => by
    unfold rd_block
    rw [en]
    show rd_b3 bs lim (bt_num bs p 16) (bt_num bs (p + 16) 6) (rd_maps bs (p + 16 + 6)) = _
    rw [hx]
  refine ⟨_, rfl, fun c => absurd g4 c, fun _ => ?_⟩
  have zz3 := zz2 (nI (bt_num bs (p + 16) 6))
  have a3 := a.keepg zz3 (by simp) (by simp)
  refine zi_mono (c_readMaps (p := p + 16 + 6) l (d + 1) g a3 (by rw [zx_u2_k (by omega)]; exact g3) g1 (by rw [zx_u2_k (by omega)]; exact g4)) ?_
  rintro r4 I4 ⟨rfl, p4, z4⟩
  have zz4 : zg m [7, 8, 9, 19, 20, 21, 22] [m + 8, m + 9] I I4 := zg_trans (zg_mono zz3 (by simp) (by simp)) (zg_mono z4 (by simp) (by simp))
  have h204 : I4 m 20 = nI p := by rw [z4.1 20 (by simp), zx_u2_k (by omega)]; exact h202
  refine ⟨rfl, ?_⟩
  cases e4' : rd_maps bs (p + 16 + 6) with
  | inl f =>
    rw [e4'] at p4
    exact f47 I4 f (hb1 _ e4') p4.1 p4.2.1 p4.2.2.1 p4.2.2.2 h204 (zF (by unfold mr_F; simp) (by unfold mr_S; simp) zz4)
  | inr w4 =>
  obtain ⟨u, q4⟩ := w4
  rw [e4'] at p4
  obtain ⟨k1, k2, k3, k4, k5⟩ := p4
  dsimp only at k2 k3 k4 k5
  have ok2 := rd_maps_pos e4'
  have hkl := kf_le u 256
  have a4 := a.keepg zz4 (by simp) (by simp)
  have hb2 : ∀ x, rd_TG bs q4 = x → rd_block bs lim p = rd_b4 bs lim (bt_num bs p 16) (bt_num bs (p + 16) 6) u x := fun x hx => by
    rw [hb1 _ e4']
    show rd_b4 bs lim (bt_num bs p 16) (bt_num bs (p + 16) 6) u (rd_TG bs q4) = _
    rw [hx]
  have h194 : I4 m 19 = nI (bt_num bs p 16) := by rw [z4.1 19 (by simp), zx_u2_k (by omega)]; exact h192
  have h214 : I4 m 21 = nI (bt_num bs (p + 16) 6) := by rw [z4.1 21 (by simp), zx_u2_s]
  -- the tables
  refine r_Mod_readBlock_47 l (d + 3) m _ g.1 ⟨fun c => absurd k1 c, fun _ => ?_⟩
  rw [k2]
  refine zi_mono (c_mt (k := 3) (p := q4) l (d + 2) g a4 k2 k3 k1 (by decide)) ?_
  rintro r5 I5 ⟨⟨v5, rfl, hv5⟩, z5⟩
  have h205 : I5 m 20 = nI p := by rw [z5.1 20 (by simp)]; exact h204
  rcases hv5 with ⟨m1, rfl, m3, m4⟩ | ⟨m1, rfl, m3, m4, m5⟩
  rotate_left
  · have hr : rd_block bs lim p = .inl (-2, q4) := hb2 (Sum.inl (-2, q4)) (by
      have : rd_T bs q4 = .inl (-2, q4) := by
        unfold rd_T
        rw [if_neg m1]
      simp only [rd_TG, this])
    exact ⟨_, rfl, f70 I5 _ _ (-2, q4) hr m4 m5 (by dsimp only; decide) ⟨q4, k3, m3⟩ h205 (zg_trans (zF (by unfold mr_F; simp) (by unfold mr_S; simp) zz4) (zF (by unfold mr_F; simp) (by simp) z5))⟩
  have hb3 := bn_lt bs q4 (k := 3) (by decide)
  have z6 : zg m [7, 8, 9, 19, 20, 21, 22, 25] [m + 8, m + 9] I (zx_u2 I5 m 25 (nI (bt_num bs q4 3))) := zg_trans (zg_trans (zg_mono zz4 (by simp) (by simp)) (zg_mono z5 (by simp) (by simp))) (zg_fld (by simp))
  have z6F := zF (by unfold mr_F; simp) (by unfold mr_S; simp) z6
  refine ⟨_, rfl, ?_⟩
  -- a wrong number of tables
  have badT : (bt_num bs q4 3 < 1 ∨ 4 < bt_num bs q4 3) → zi_X l (zx_rm (d + 4) 0 0) M_Mod_readBlock K RJ (fun r I2 => r = none ∧ mrb_post (rd_block bs lim p) (8 * bs.length) m I2 ∧ I2 m 20 = nI p ∧ zg m mr_F (mr_S m) I I2) 90 [(0, .ref m), (1, .int (nI lim)), (2, .int (nI q4))] [.ref m] (zx_u2 I5 m 25 (nI (bt_num bs q4 3))) := fun h => by
    have hr : rd_block bs lim p = .inl (-6, q4) := hb2 (Sum.inl (-6, q4)) (by
      have : rd_T bs q4 = .inl (-6, q4) := by
        unfold rd_T
        rw [if_pos m1, if_pos h]
      simp only [rd_TG, this])
    refine r_Mod_readBlock_90 l (d + 3) m _ _ m (r_Mod_readBlock_95 l (d + 3) m _ _ _ m g.1 g.1 (zi_mono (c_fi l (d + 2) g.1) ?_))
    rintro r I6 ⟨rfl, (⟨_, _, f1, f2, f3, f4⟩ | ⟨h, _⟩)⟩
    · have n6 : ¬ I6 m 8 = 0 := by rw [f1]; decide
      exact ⟨rfl, fun _ => f125 I6 _ _ (-6, q4) hr f1 f2 (by dsimp only; decide) ⟨q4 + 3, m1, by rw [f3, zx_u2_k (by omega)]; exact m3⟩ (by rw [f4.1 20 (by simp), zx_u2_k (by omega)]; exact h205) (zg_trans z6F (zF (by unfold mr_F; simp) (by simp) f4)), fun c => absurd c n6⟩
    · exact absurd ⟨by decide, by rw [zx_u2_k (by omega)]; exact m4⟩ h
  refine r_Mod_readBlock_70 l (d + 3) m _ _ _ m g.1 g.1 ?_
  rw [zx_u2_s]
  refine ⟨fun c => ?_, fun c => ⟨fun c2 => ?_, fun c2 => ?_⟩⟩
  · rw [show (1 : Int32) = nI 1 from rfl, nI_ltI (by omega) (by omega)] at c
    exact badT (Or.inl c)
  rotate_left
  · rw [show (4 : Int32) = nI 4 from rfl, nI_leI (by omega) (by omega)] at c2
    exact badT (Or.inr (by omega))
  rw [show (1 : Int32) = nI 1 from rfl, nI_ltI (by omega) (by omega)] at c
  rw [show (4 : Int32) = nI 4 from rfl, nI_leI (by omega) (by omega)] at c2
  have eT : rd_T bs q4 = .inr (bt_num bs q4 3, q4 + 3) := by
    unfold rd_T
    rw [if_pos m1, if_neg (by omega)]
  refine r_Mod_readBlock_95 l (d + 3) m _ _ _ m g.1 g.1 (zi_mono (c_fi l (d + 2) g.1) ?_)
  rintro r6 I6 ⟨rfl, (⟨h, _⟩ | ⟨_, rfl⟩)⟩
  · exact absurd rfl h
  have h86 : zx_u2 I5 m 25 (nI (bt_num bs q4 3)) m 8 = 0 := by rw [zx_u2_k (by omega)]; exact m4
  have h76 : zx_u2 I5 m 25 (nI (bt_num bs q4 3)) m 7 = nI (q4 + 3) := by rw [zx_u2_k (by omega)]; exact m3
  have h206 : zx_u2 I5 m 25 (nI (bt_num bs q4 3)) m 20 = nI p := by rw [zx_u2_k (by omega)]; exact h205
  refine ⟨rfl, fun c => absurd h86 c, fun _ => ?_⟩
  rw [h76]
  have a6 := a.keepg z6 (by simp) (by simp)
  refine zi_mono (c_mt (k := 6) (p := q4 + 3) l (d + 2) g a6 h76 m1 h86 (by decide)) ?_
  rintro r7 I7 ⟨⟨v7, rfl, hv7⟩, z7⟩
  have h207 : I7 m 20 = nI p := by rw [z7.1 20 (by simp)]; exact h206
  have z7F := zg_trans z6F (zF (by unfold mr_F; simp) (by simp) z7)
  refine ⟨_, rfl, ?_⟩
  rcases hv7 with ⟨n1, rfl, n3, n4⟩ | ⟨n1, rfl, n3, n4, n5⟩
  rotate_left
  · have hr : rd_block bs lim p = .inl (-2, q4 + 3) := hb2 (Sum.inl (-2, q4 + 3)) (by
      have : rd_G bs (q4 + 3) = .inl (-2, q4 + 3) := by
        unfold rd_G
        rw [if_neg n1]
      simp only [rd_TG, eT, this])
    exact f125 I7 _ _ (-2, q4 + 3) hr n4 n5 (by dsimp only; decide) ⟨q4 + 3, m1, n3⟩ h207 z7F
  have hb6 := bt_num_lt bs (q4 + 3) 6
  have z8 : zg m [7, 8, 9, 19, 20, 21, 22, 25, 28] [m + 8, m + 9] I (zx_u2 I7 m 28 (nI (bt_num bs (q4 + 3) 6))) := zg_trans (zg_trans (zg_mono z6 (by simp) (by simp)) (zg_mono z7 (by simp) (by simp))) (zg_fld (by simp))
  have z8F := zF (by unfold mr_F; simp) (by unfold mr_S; simp) z8
  have h88 : zx_u2 I7 m 28 (nI (bt_num bs (q4 + 3) 6)) m 8 = 0 := by rw [zx_u2_k (by omega)]; exact n4
  have h78 : zx_u2 I7 m 28 (nI (bt_num bs (q4 + 3) 6)) m 7 = nI (q4 + 3 + 6) := by rw [zx_u2_k (by omega)]; exact n3
  have h208 : zx_u2 I7 m 28 (nI (bt_num bs (q4 + 3) 6)) m 20 = nI p := by rw [zx_u2_k (by omega)]; exact h207
  refine r_Mod_readBlock_125 l (d + 3) m _ _ _ m g.1 g.1 ?_
  rw [zx_u2_s, show (0 : Int32) = nI 0 from rfl, nI_eq (by omega) (by omega)]
  refine ⟨fun c3 => ?_, fun c3 => ?_⟩
  rotate_left
  · have hr : rd_block bs lim p = .inl (-7, q4 + 3) := hb2 (Sum.inl (-7, q4 + 3)) (by
      have : rd_G bs (q4 + 3) = .inl (-7, q4 + 3) := by
        unfold rd_G
        rw [if_pos n1, if_pos c3]
      simp only [rd_TG, eT, this])
    refine r_Mod_readBlock_141 l (d + 3) m _ _ _ m g.1 g.1 (zi_mono (c_fi l (d + 2) g.1) ?_)
    rintro r I9 ⟨rfl, (⟨_, _, f1, f2, f3, f4⟩ | ⟨h, _⟩)⟩
    · have n9 : ¬ I9 m 8 = 0 := by rw [f1]; decide
      exact ⟨rfl, fun _ => f158 I9 _ (-7, q4 + 3) hr f1 f2 (by dsimp only; decide) ⟨q4 + 3 + 6, n1, by rw [f3]; exact h78⟩ (by rw [f4.1 20 (by simp)]; exact h208) (zg_trans z8F (zF (by unfold mr_F; simp) (by simp) f4)), fun c => absurd c n9⟩
    · exact absurd ⟨by decide, h88⟩ h
  have eTG : rd_TG bs q4 = .inr ((bt_num bs q4 3, bt_num bs (q4 + 3) 6), q4 + 3 + 6) := by
    have : rd_G bs (q4 + 3) = .inr (bt_num bs (q4 + 3) 6, q4 + 3 + 6) := by
      unfold rd_G
      rw [if_pos n1, if_neg c3]
    simp only [rd_TG, eT, this]
  refine r_Mod_readBlock_141 l (d + 3) m _ _ _ m g.1 g.1 (zi_mono (c_fi l (d + 2) g.1) ?_)
  rintro r9 I9 ⟨rfl, (⟨h, _⟩ | ⟨_, rfl⟩)⟩
  · exact absurd rfl h
  refine ⟨rfl, fun c => absurd h88 c, fun _ => ?_⟩
  have a8 := a.keepg z8 (by simp) (by simp)
  have h258 : zx_u2 I7 m 28 (nI (bt_num bs (q4 + 3) 6)) m 25 = nI (bt_num bs q4 3) := by rw [zx_u2_k (by omega), z7.1 25 (by simp), zx_u2_s]
  refine zi_mono (c_mreadPicks (T := bt_num bs q4 3) (G := bt_num bs (q4 + 3) 6) (p := q4 + 3 + 6) l (d + 1) g (by omega) c2 (by omega) a8 h78 n1 h88 h258 zx_u2_s) ?_
  rintro r10 I10 ⟨rfl, p10, z10⟩
  have z10a : zg m [7, 8, 9, 19, 20, 21, 22, 25, 28] [m + 8, m + 9, m + 12, m + 13] I I10 := zg_trans (zg_mono z8 (by simp) (by simp)) (zg_mono z10 (by simp) (by simp))
  have z10F := zF (by unfold mr_F; simp) (by unfold mr_S; simp) z10a
  have h2010 : I10 m 20 = nI p := by rw [z10.1 20 (by simp)]; exact h208
  have hb4 : ∀ x, rd_picks bs (bt_num bs q4 3) (bt_num bs (q4 + 3) 6) (List.range (bt_num bs q4 3)) [] (q4 + 3 + 6) = x → rd_block bs lim p = rd_b5 bs lim (bt_num bs p 16) (bt_num bs (p + 16) 6) u (bt_num bs q4 3) (bt_num bs (q4 + 3) 6) x := fun x hx => by
    rw [hb2 _ eTG]
    show rd_b5 bs lim (bt_num bs p 16) (bt_num bs (p + 16) 6) u (bt_num bs q4 3) (bt_num bs (q4 + 3) 6) (rd_picks bs (bt_num bs q4 3) (bt_num bs (q4 + 3) 6) (List.range (bt_num bs q4 3)) [] (q4 + 3 + 6)) = _
    rw [hx]
  refine ⟨rfl, ?_⟩
  cases e10 : rd_picks bs (bt_num bs q4 3) (bt_num bs (q4 + 3) 6) (List.range (bt_num bs q4 3)) [] (q4 + 3 + 6) with
  | inl f =>
    rw [e10] at p10
    exact f158 I10 _ f (hb4 _ e10) p10.1 p10.2.1 p10.2.2.1 p10.2.2.2 h2010 z10F
  | inr w10 =>
  obtain ⟨pk, q10⟩ := w10
  rw [e10] at p10
  obtain ⟨x1, x2, x3, x4, x5⟩ := p10
  dsimp only at x2 x3 x4 x5
  have okp := rd_picks_ok (bt_num bs (q4 + 3) 6) (List.range (bt_num bs q4 3)) [] (q4 + 3 + 6) e10 (by simp) (fun v hv => List.mem_range.mp hv) (fun v hv => absurd hv List.not_mem_nil)
  have hpk : ∀ i, i < bt_num bs (q4 + 3) 6 → pk.getD i 0 < bt_num bs q4 3 := fun i hi => okp.2 _ (getD_mem (by omega))
  have a10 := a.keepg z10a (by simp) (by simp)
  have h2210 : I10 m 22 = nI (kf u 256).length := by rw [z10.1 22 (by simp), zx_u2_k (by omega), z7.1 22 (by simp), zx_u2_k (by omega), z5.1 22 (by simp)]; exact k5.1
  have h2510 : I10 m 25 = nI (bt_num bs q4 3) := by rw [z10.1 25 (by simp)]; exact h258
  refine r_Mod_readBlock_158 l (d + 3) m _ _ (t_mr160 (bs := bs) (T := bt_num bs q4 3) (ks := (kf u 256).length) l (d + 1) g c2 hkl (bt_num bs q4 3) 0 q10 [] I10 (by omega) rfl a10 x2 x3 x1 h2210 h2510 (fun _ h => absurd h (by omega)) (fun I11 xx p11 z11 => ?_))
  have z11a : zg m [7, 8, 9, 19, 20, 21, 22, 25, 28] [m + 8, m + 9, m + 10, m + 11, m + 12, m + 13] I I11 := zg_trans (zg_mono z10a (by simp) (by simp)) (zg_mono z11 (by simp) (by simp))
  have z11F := zF (by unfold mr_F; simp) (by unfold mr_S; simp) z11a
  have h2011 : I11 m 20 = nI p := by rw [z11.1 20 (by simp)]; exact h2010
  have hb5 : ∀ x, rd_tabs bs ((kf u 256).length + 2) (bt_num bs q4 3) [] q10 = x → rd_block bs lim p = rd_b6 bs lim (bt_num bs p 16) (bt_num bs (p + 16) 6) u (bt_num bs q4 3) (bt_num bs (q4 + 3) 6) pk x := fun x hx => by
    rw [hb4 _ e10]
    show rd_b6 bs lim (bt_num bs p 16) (bt_num bs (p + 16) 6) u (bt_num bs q4 3) (bt_num bs (q4 + 3) 6) pk (rd_tabs bs ((kf u 256).length + 2) (bt_num bs q4 3) [] q10) = _
    rw [hx]
  cases e11 : rd_tabs bs ((kf u 256).length + 2) (bt_num bs q4 3) [] q10 with
  | inl f =>
    rw [e11] at p11
    exact f191 I11 _ _ f (hb5 _ e11) p11.1 p11.2.1 p11.2.2.1 p11.2.2.2 h2011 z11F
  | inr w11 =>
  obtain ⟨lns, q11⟩ := w11
  rw [e11] at p11
  obtain ⟨y1, y2, y3, y4, y5⟩ := p11
  dsimp only at y2 y3 y4 y5
  have a11 := a.keepg z11a (by simp) (by simp)
  have ap11 : a_MP I11 m (bt_num bs (q4 + 3) 6) (fun g => pk.getD g 0) := ⟨by rw [z11.1 28 (by simp), z10.1 28 (by simp), zx_u2_s], fun x hx => by rw [zg_cell z11 (by omega) (by simp)]; exact x5 x hx⟩
  have ak11 : aL I11 m 22 (m + 9) (kf u 256) := ⟨by rw [z11.1 22 (by simp)]; exact h2210, fun x hx => by
    rw [zg_cell z11 (by omega) (by simp), zg_cell z10 (by omega) (by simp), zx_u2_ne (by omega), zg_cell z7 (by omega) (by simp), zx_u2_ne (by omega), zg_cell z5 (by omega) (by simp)]
    exact k5.2 x hx⟩
  have au11 : a_Us I11 m u := fun x hx => by
    rw [zg_cell z11 (by omega) (by simp), zg_cell z10 (by omega) (by simp), zx_u2_ne (by omega), zg_cell z7 (by omega) (by simp), zx_u2_ne (by omega), zg_cell z5 (by omega) (by simp)]
    exact k4 x hx
  have h1911 : I11 m 19 = nI (bt_num bs p 16) := by rw [z11.1 19 (by simp), z10.1 19 (by simp), zx_u2_k (by omega), z7.1 19 (by simp), zx_u2_k (by omega), z5.1 19 (by simp)]; exact h194
  have h2111 : I11 m 21 = nI (bt_num bs (p + 16) 6) := by rw [z11.1 21 (by simp), z10.1 21 (by simp), zx_u2_k (by omega), z7.1 21 (by simp), zx_u2_k (by omega), z5.1 21 (by simp)]; exact h214
  refine r_Mod_readBlock_191 l (d + 3) m _ _ _ g.1 ⟨fun _ => zi_mono (c_mreadSymbols (bs := bs) (T := bt_num bs q4 3) (G := bt_num bs (q4 + 3) 6) (lim := lim) (xs := kf u 256) (lns := lns) (pk := fun g => pk.getD g 0) l d g c2 (by omega) hkl ok2 (fun v hv => (kf_mem.mp hv).1) hlim hpk a11 y2 y3 y1 ap11 ak11 y5) ?_, fun c => absurd y1 c⟩
  rintro r12 I12 ⟨p12, z12⟩
  have z12a : zg m [7, 8, 9, 14, 17, 19, 20, 21, 22, 25, 28] [m + 6, m + 7, m + 8, m + 9, m + 10, m + 11, m + 12, m + 13] I I12 := zg_trans (zg_mono z11a (by simp) (by simp)) (zg_mono z12 (by simp) (by simp))
  have z12F := zF (by unfold mr_F; simp) (by unfold mr_S; simp) z12a
  have h2012 : I12 m 20 = nI p := by rw [z12.1 20 (by simp)]; exact h2011
  have h2112 : I12 m 21 = nI (bt_num bs (p + 16) 6) := by rw [z12.1 21 (by simp)]; exact h2111
  have hb6' : ∀ x, rd_syms bs lns (kf u 256).length lim (fun g => pk.getD g 0) (8 * bt_num bs (q4 + 3) 6) 0 (kf u 256) [] 1 [] q11 = x → rd_block bs lim p = rd_end (bt_num bs p 16) (bt_num bs (p + 16) 6) u (bt_num bs q4 3) (bt_num bs (q4 + 3) 6) pk lns x := fun x hx => by
    rw [hb5 _ e11]
    show rd_end (bt_num bs p 16) (bt_num bs (p + 16) 6) u (bt_num bs q4 3) (bt_num bs (q4 + 3) 6) pk lns (rd_syms bs lns (kf u 256).length lim (fun g => pk.getD g 0) (8 * bt_num bs (q4 + 3) 6) 0 (kf u 256) [] 1 [] q11) = _
    rw [hx]
  cases e12 : rd_syms bs lns (kf u 256).length lim (fun g => pk.getD g 0) (8 * bt_num bs (q4 + 3) 6) 0 (kf u 256) [] 1 [] q11 with
  | inl f =>
    rw [e12] at p12
    obtain ⟨⟨xv, rfl⟩, f1, f2, f3, f4⟩ := p12
    have n12 : ¬ I12 m 8 = 0 := by rw [f1]; exact f3
    have fin : ∀ y0, zi_X l (zx_rm (d + 4) 0 0) M_Mod_readBlock K RJ (fun r I2 => r = none ∧ mrb_post (rd_block bs lim p) (8 * bs.length) m I2 ∧ I2 m 20 = nI p ∧ zg m mr_F (mr_S m) I I2) 222 [(0, .ref m), (1, .int (nI lim)), (2, .int (nI (q4 + 3))), (3, .int xv)] [.int y0, .ref m] I12 := fun y0 => by
      refine r_Mod_readBlock_222 l (d + 3) m _ _ _ _ m g.1 g.1 (zi_mono (c_fi l (d + 2) g.1) ?_)
      rintro r I13 ⟨rfl, (⟨_, h, _⟩ | ⟨_, rfl⟩)⟩
      · exact absurd h n12
      · refine ⟨rfl, fun _ => r_Mod_readBlock_262 l (d + 3) m _ _ _ ⟨rfl, ?_, h2012, z12F⟩, fun c => absurd c n12⟩
        rw [hb6' _ e12]
        exact ⟨f1, f2, f3, f4⟩
    exact ⟨_, rfl, fun _ => fin _, fun _ => fin _⟩
  | inr w12 =>
  obtain ⟨⟨sl, co, en'⟩, q12⟩ := w12
  rw [e12] at p12
  obtain ⟨rfl, s1, s2, s3, s4, s5⟩ := p12
  dsimp only at s2 s3 s4 s5
  obtain ⟨t1, t2, t3, t4, t5, t6⟩ := rd_syms_ok (8 * bt_num bs (q4 + 3) 6) 0 (kf u 256) [] 1 [] q11 e12 rfl ok2 (fun v hv => (kf_mem.mp hv).1) (fun v hv => absurd hv List.not_mem_nil) (Nat.zero_le _) (Nat.le_refl _) (Nat.le_refl _) (fun v hv => absurd hv List.not_mem_nil)
  dsimp only [List.length_nil] at t1 t2 t3 t4 t5 t6
  have hog : bt_num bs (p + 16) 6 < 64 := ok1.2
  refine ⟨_, rfl, ?_⟩
  rw [h2112, s5.1, nI_ltI (by omega) (by omega)]
  refine ⟨fun c4 => ?_, fun c4 => ?_⟩
  · refine r_Mod_readBlock_222 l (d + 3) m _ _ _ _ m g.1 g.1 (zi_mono (c_fi l (d + 2) g.1) ?_)
    rintro r I13 ⟨rfl, (⟨h, _⟩ | ⟨_, rfl⟩)⟩
    · exact absurd rfl h
    · refine ⟨rfl, fun c => absurd s1 c, fun _ => ?_⟩
      have hb7 : rd_block bs lim p = if (rb_le (bt_num bs (p + 16) 6) co).2 = 4 then .inl (-13, en') else .inr ((rb_bk (bt_num bs p 16) (bt_num bs (p + 16) 6) u (bt_num bs q4 3) (bt_num bs (q4 + 3) 6) pk lns sl co, (rb_le (bt_num bs (p + 16) 6) co).1), q12) := by
        rw [hb6' _ e12]
        show (if bt_num bs (p + 16) 6 < co.length then (if (rb_le (bt_num bs (p + 16) 6) co).2 = 4 then (Sum.inl (-13, en') : rd_R (bk_B × List Nat)) else Sum.inr ((rb_bk (bt_num bs p 16) (bt_num bs (p + 16) 6) u (bt_num bs q4 3) (bt_num bs (q4 + 3) 6) pk lns sl co, (rb_le (bt_num bs (p + 16) 6) co).1), q12)) else Sum.inl (-12, en')) = _
        rw [if_pos c4]
      refine zi_mono (c_munsort (n := co.length) (c := fun i => co.getD i 0) (og := bt_num bs (p + 16) 6) l (d + 3) g (by omega) c4 (fun i hi => t3 _ (getD_mem hi)) h2112 s5) ?_
      rintro r I14 ⟨rfl, v1, v2⟩
      have z14' : zg m [] [m + 5, m + 14] I13 I14 := ⟨fun j _ => zf_at v2 (by simp) j, zf_mono v2 (by simp)⟩
      have ash : a_MSh I14 m co.length (fun i => (un_sh (fun i => co.getD i 0) co.length (bt_num bs (p + 16) 6)).getD i 0) := ⟨by rw [z14'.1 14 (by simp)]; exact s5.1, v1⟩
      have shb : ∀ i, i < co.length → (un_sh (fun i => co.getD i 0) co.length (bt_num bs (p + 16) 6)).getD i 0 < 256 := fun i hi => un_sh_lt c4 t3 _ (getD_mem (by rw [un_sh_len]; exact hi))
      refine ⟨rfl, zi_mono (c_mlengthen (n := co.length) (f := fun i => (un_sh (fun i => co.getD i 0) co.length (bt_num bs (p + 16) 6)).getD i 0) l (d + 3) g (by omega) shb ash) ?_⟩
      rintro r I15 ⟨rfl, l15, z15⟩
      have z15a : zg m [12] [m + 4, m + 5, m + 14] I13 I15 := zg_trans (zg_mono z14' (by simp) (by simp)) (zg_mono z15 (by simp) (by simp))
      have z15F := zg_trans z12F (zF (by unfold mr_F; simp) (by unfold mr_S; simp) z15a)
      have h815 : I15 m 8 = 0 := by rw [z15a.1 8 (by simp)]; exact s1
      have h715 : I15 m 7 = nI q12 := by rw [z15a.1 7 (by simp)]; exact s2
      have h2015 : I15 m 20 = nI p := by rw [z15a.1 20 (by simp)]; exact h2012
      refine ⟨_, rfl, fun c5 => ?_, fun c5 => ?_⟩
      · have c6 : ¬ (rb_le (bt_num bs (p + 16) 6) co).2 = 4 := fun h => c5 (by
          rw [if_pos (show (le_go (fun i => (un_sh (fun i => co.getD i 0) co.length (bt_num bs (p + 16) 6)).getD i 0) co.length 0 0 0 []).2 = 4 from h)])
        rw [if_neg c6] at hb7
        refine r_Mod_readBlock_256 l (d + 3) m _ _ _ _ _ m g.1 (zi_mono (c_fi l (d + 2) g.1) ?_)
        rintro r I16 ⟨rfl, (⟨h, _⟩ | ⟨_, rfl⟩)⟩
        · exact absurd rfl h
        · refine ⟨rfl, r_Mod_readBlock_262 l (d + 3) m _ _ _ ⟨rfl, ?_, h2015, z15F⟩⟩
          rw [hb7]
          refine ⟨h815, h715, s3, ?_, ?_, l15⟩
          · have o15 : ∀ q, q ≠ m → q ≠ m + 4 → q ≠ m + 5 → q ≠ m + 14 → I16 q = I13 q := fun q h1 h2 h3 h4 => z15a.2 q (by simp only [List.mem_cons, List.not_mem_nil, or_false, not_or]; exact ⟨h1, h2, h3, h4⟩)
            refine ⟨?_, ?_, ⟨?_, ?_⟩, ?_, ?_, ?_, ⟨?_, ?_⟩, ?_, ?_, ?_, ⟨?_, ?_⟩⟩
            · rw [z15a.1 19 (by simp), z12.1 19 (by simp)]; exact h1911
            · rw [z15a.1 21 (by simp)]; exact h2112
            · rw [z15a.1 14 (by simp), s5.1]
              show nI co.length = nI (un_sh (fun i => co.getD i 0) co.length (bt_num bs (p + 16) 6)).length
              rw [un_sh_len]
            · intro i hi
              have hi2 : i < (un_sh (fun i => co.getD i 0) co.length (bt_num bs (p + 16) 6)).length := hi
              rw [un_sh_len] at hi2
              rw [zg_cell z15 (by omega) (by simp)]
              exact v1 i hi2
            · intro i hi
              rw [o15 _ (by omega) (by omega) (by omega) (by omega)]
              exact s5.2 i hi
            · rw [z15a.1 22 (by simp), z12.1 22 (by simp)]; exact ak11.1
            · intro x hx
              rw [o15 _ (by omega) (by omega) (by omega) (by omega), zg_cell z12 (by omega) (by simp), au11 x hx]
              have e : uu (kf u 256) (kf u 256).length x = u x := by
                rw [Bool.eq_iff_iff, uu_mem, kf_mem]
                exact ⟨fun h => h.2, fun h => ⟨hx, h⟩⟩
              show (if u x = true then (1 : Int32) else 0) = if uu (kf u 256) (kf u 256).length x = true then 1 else 0
              rw [e]
            · rw [z15a.1 17 (by simp)]; exact s4.1
            · intro i hi
              rw [o15 _ (by omega) (by omega) (by omega) (by omega)]
              exact s4.2 i hi
            · rw [z15a.1 25 (by simp), z12.1 25 (by simp), z11.1 25 (by simp)]; exact h2510
            · intro t ht s hs
              rw [o15 _ (by omega) (by omega) (by omega) (by omega), zg_cell z12 (by omega) (by simp)]
              exact (y5 t ht).1 s hs
            · intro t ht s hs
              rw [o15 _ (by omega) (by omega) (by omega) (by omega), zg_cell z12 (by omega) (by simp)]
              exact (y5 t ht).2.1 s hs
            · rw [z15a.1 28 (by simp), z12.1 28 (by simp)]; exact ap11.1
            · intro i hi
              rw [o15 _ (by omega) (by omega) (by omega) (by omega), zg_cell z12 (by omega) (by simp)]
              exact ap11.2 i hi
          · exact rb_bk_ok (lim := lim) ok1.1 ok1.2 (by omega) c2 (by omega) x4 okp.2 (fun t ht => (y5 t ht).2.2) t1 t2 hlim t3 t4 (by omega) c4
      · have c6 : (rb_le (bt_num bs (p + 16) 6) co).2 = 4 := by
          by_cases h : (rb_le (bt_num bs (p + 16) 6) co).2 = 4
          · exact h
          · rw [if_neg (show ¬ (le_go (fun i => (un_sh (fun i => co.getD i 0) co.length (bt_num bs (p + 16) 6)).getD i 0) co.length 0 0 0 []).2 = 4 from h)] at c5
            exact absurd c5 (by decide)
        rw [if_pos c6] at hb7
        refine r_Mod_readBlock_256 l (d + 3) m _ _ _ _ _ m g.1 (zi_mono (c_fi l (d + 2) g.1) ?_)
        rintro r I16 ⟨rfl, (⟨_, _, f1, f2, f3, f4⟩ | ⟨h, _⟩)⟩
        · refine ⟨rfl, r_Mod_readBlock_262 l (d + 3) m _ _ _ ⟨rfl, ?_, by rw [f4.1 20 (by simp)]; exact h2015, zg_trans z15F (zF (by unfold mr_F; simp) (by simp) f4)⟩⟩
          rw [hb7]
          exact ⟨f1, f2, by dsimp only; decide, q12, s3, by rw [f3]; exact h715⟩
        · exact absurd ⟨by decide, h815⟩ h
  · have hb7 : rd_block bs lim p = .inl (-12, en') := by
      rw [hb6' _ e12]
      show (if bt_num bs (p + 16) 6 < co.length then (if (rb_le (bt_num bs (p + 16) 6) co).2 = 4 then (Sum.inl (-13, en') : rd_R (bk_B × List Nat)) else Sum.inr ((rb_bk (bt_num bs p 16) (bt_num bs (p + 16) 6) u (bt_num bs q4 3) (bt_num bs (q4 + 3) 6) pk lns sl co, (rb_le (bt_num bs (p + 16) 6) co).1), q12)) else Sum.inl (-12, en')) = _
      rw [if_neg c4]
    refine r_Mod_readBlock_222 l (d + 3) m _ _ _ _ m g.1 g.1 (zi_mono (c_fi l (d + 2) g.1) ?_)
    rintro r I13 ⟨rfl, (⟨_, _, f1, f2, f3, f4⟩ | ⟨h, _⟩)⟩
    · have n13 : ¬ I13 m 8 = 0 := by rw [f1]; decide
      refine ⟨rfl, fun _ => r_Mod_readBlock_262 l (d + 3) m _ _ _ ⟨rfl, ?_, by rw [f4.1 20 (by simp)]; exact h2012, zg_trans z12F (zF (by unfold mr_F; simp) (by simp) f4)⟩, fun c => absurd c n13⟩
      rw [hb7]
      exact ⟨f1, f2, by dsimp only; decide, q12, s3, by rw [f3]; exact s2⟩
    · exact absurd ⟨by decide, s1⟩ h
end MRB
