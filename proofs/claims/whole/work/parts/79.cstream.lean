/-! The class reads streams. -/
def g_Main (K : zx_Kt) (RJ : zx_RJ) (o tl nx : Nat) : Prop := (K.2 o).1 = 5 ∧ RJ.1 o 0 = o + 1 ∧ RJ.1 o 1 = o + 3 ∧ RJ.1 o 2 = o + 5 ∧ RJ.1 o 3 = o + 7 ∧ RJ.1 o 4 = o + 8 ∧ RJ.1 o 5 = o + 38 ∧ RJ.1 o 6 = o + 50 ∧ RJ.1 o 7 = tl ∧ RJ.1 o 8 = nx ∧ g_Row K RJ (o + 1) 400 ∧ g_Row K RJ (o + 3) 4600 ∧ g_Row K RJ (o + 5) 2000 ∧ g_BR K RJ (o + 8) (o + 7) (o + 1) 400 ∧ g_Maker K RJ (o + 38) ∧ g_BW K RJ (o + 50) (o + 3) 4600 ∧ g_Block K RJ tl ∧ g_Block K RJ nx ∧ ((tl = o + 80 ∧ nx = o + 91) ∨ (tl = o + 91 ∧ nx = o + 80))
section GM
variable {K : zx_Kt} {RJ : zx_RJ} {o tl nx : Nat}
theorem g_Main.k (g : g_Main K RJ o tl nx) : (K.2 o).1 = 5 := g.1
theorem g_Main.iR (g : g_Main K RJ o tl nx) : RJ.1 o 0 = o + 1 := g.2.1
theorem g_Main.oR (g : g_Main K RJ o tl nx) : RJ.1 o 1 = o + 3 := g.2.2.1
theorem g_Main.fR (g : g_Main K RJ o tl nx) : RJ.1 o 2 = o + 5 := g.2.2.2.1
theorem g_Main.bR (g : g_Main K RJ o tl nx) : RJ.1 o 3 = o + 7 := g.2.2.2.2.1
theorem g_Main.rR (g : g_Main K RJ o tl nx) : RJ.1 o 4 = o + 8 := g.2.2.2.2.2.1
theorem g_Main.mR (g : g_Main K RJ o tl nx) : RJ.1 o 5 = o + 38 := g.2.2.2.2.2.2.1
theorem g_Main.wR (g : g_Main K RJ o tl nx) : RJ.1 o 6 = o + 50 := g.2.2.2.2.2.2.2.1
theorem g_Main.tR (g : g_Main K RJ o tl nx) : RJ.1 o 7 = tl := g.2.2.2.2.2.2.2.2.1
theorem g_Main.nR (g : g_Main K RJ o tl nx) : RJ.1 o 8 = nx := g.2.2.2.2.2.2.2.2.2.1
theorem g_Main.i (g : g_Main K RJ o tl nx) : g_Row K RJ (o + 1) 400 := g.2.2.2.2.2.2.2.2.2.2.1
theorem g_Main.ou (g : g_Main K RJ o tl nx) : g_Row K RJ (o + 3) 4600 := g.2.2.2.2.2.2.2.2.2.2.2.1
theorem g_Main.f (g : g_Main K RJ o tl nx) : g_Row K RJ (o + 5) 2000 := g.2.2.2.2.2.2.2.2.2.2.2.2.1
theorem g_Main.r (g : g_Main K RJ o tl nx) : g_BR K RJ (o + 8) (o + 7) (o + 1) 400 := g.2.2.2.2.2.2.2.2.2.2.2.2.2.1
theorem g_Main.m (g : g_Main K RJ o tl nx) : g_Maker K RJ (o + 38) := g.2.2.2.2.2.2.2.2.2.2.2.2.2.2.1
theorem g_Main.w (g : g_Main K RJ o tl nx) : g_BW K RJ (o + 50) (o + 3) 4600 := g.2.2.2.2.2.2.2.2.2.2.2.2.2.2.2.1
theorem g_Main.t (g : g_Main K RJ o tl nx) : g_Block K RJ tl := g.2.2.2.2.2.2.2.2.2.2.2.2.2.2.2.2.1
theorem g_Main.n (g : g_Main K RJ o tl nx) : g_Block K RJ nx := g.2.2.2.2.2.2.2.2.2.2.2.2.2.2.2.2.2.1
theorem g_Main.d (g : g_Main K RJ o tl nx) : (tl = o + 80 ∧ nx = o + 91) ∨ (tl = o + 91 ∧ nx = o + 80) := g.2.2.2.2.2.2.2.2.2.2.2.2.2.2.2.2.2.2
end GM
section CST
variable {K : zx_Kt} {RJ : zx_RJ} {o tl nx p : Nat} {bs : List Nat}
theorem c_readHead (l : Launch) (d : Nat) {I : zi_I} (g : g_Main K RJ o tl nx) (a : a_Row I (o + 1) 400 bs) (hp : I (o + 7) 1 = nI p) (hp2 : p ≤ 8 * bs.length) :
    zi_C l (zx_rm (d + 2) 0 0) M_Main_readHead [.ref o] K RJ I (fun r I2 => rd_pv (rd_head bs p) (8 * bs.length) (o + 7) r I2 ∧ zg (o + 7) [1, 2] [] I I2) := by
  have h8 := bits_ok g.r.b a
  have b16 := bn_lt bs p (k := 16) (by decide)
  have b8 := bn_lt bs (p + 16) (k := 8) (by decide)
  refine zi_of (by decide) (fun α => Nat.le_of_ble_eq_true rfl) (r_Main_readHead_0 l (d + 1) o g.k g.bR (by omega) g.r.b.1 (zi_mono (c_tn (k := 16) l d g.r.b a hp hp2 (by decide) (by decide)) ?_))
  rintro r I2 ⟨⟨v, rfl, hv⟩, h2, z⟩
  refine ⟨v, rfl, fun c => ?_, fun c => ?_⟩
  · rcases hv with ⟨e1, rfl, e3⟩ | ⟨_, rfl, _⟩
    · rw [show (21314 : Int32) = nI 21314 from rfl, nI_eq (by omega) (by omega)] at c
      refine zi_mono (c_tn (k := 8) (p := p + 16) l d g.r.b (a.keep z.2 (by simp) (by simp)) e3 e1 (by decide) (by decide)) ?_
      rintro r I3 ⟨⟨w, rfl, hw⟩, h3, z3⟩
      have zz := zg_trans z z3
      rcases hw with ⟨f1, rfl, f3⟩ | ⟨f1, rfl, p2, f2, f3⟩
      · have bad : (bt_num bs (p + 16) 8 = 0 ∨ 8 < bt_num bs (p + 16) 8) → rd_pv (rd_head bs p) (8 * bs.length) (o + 7) (some (.int (-3))) I3 ∧ zg (o + 7) [1, 2] [] I I3 := fun h => by
          refine ⟨?_, zz⟩
          unfold rd_head
          rw [if_pos e1, if_pos c, if_pos f1, if_pos h]
          exact ⟨rfl, h3, by dsimp only; decide, p + 16 + 8, by omega, f3⟩
        refine ⟨_, rfl, fun x => ?_, fun x => ⟨fun y => ?_, fun y => ?_⟩⟩
        · rw [show (0 : Int32) = nI 0 from rfl, nI_eq (by omega) (by omega)] at x
          exact bad (Or.inl x)
        · rw [show (0 : Int32) = nI 0 from rfl, nI_eq (by omega) (by omega)] at x
          rw [show (8 : Int32) = nI 8 from rfl, nI_leI (by omega) (by omega)] at y
          refine ⟨?_, zz⟩
          unfold rd_head
          rw [if_pos e1, if_pos c, if_pos f1, if_neg (by omega)]
          exact ⟨rfl, f3, f1⟩
        · rw [show (8 : Int32) = nI 8 from rfl, nI_leI (by omega) (by omega)] at y
          exact bad (Or.inr (by omega))
      · have fin : rd_pv (rd_head bs p) (8 * bs.length) (o + 7) (some (.int (-2))) I3 ∧ zg (o + 7) [1, 2] [] I I3 := by
          refine ⟨?_, zz⟩
          unfold rd_head
          rw [if_pos e1, if_pos c, if_neg f1]
          exact ⟨rfl, h3, by dsimp only; decide, p2, f2, f3⟩
        exact ⟨_, rfl, fun x => absurd x (by decide), fun _ => ⟨fun _ => fin, fun y => absurd (by decide) y⟩⟩
    · exact absurd c (by decide)
  · rcases hv with ⟨e1, rfl, e3⟩ | ⟨e1, rfl, p2, e2, e3⟩
    · rw [show (21314 : Int32) = nI 21314 from rfl, nI_eq (by omega) (by omega)] at c
      refine ⟨fun _ => ⟨?_, z⟩, fun x => absurd (nI_pos' (by omega)) x⟩
      unfold rd_head
      rw [if_pos e1, if_neg c]
      exact ⟨rfl, h2, by dsimp only; decide, p + 16, by omega, e3⟩
    · refine ⟨fun x => absurd x m2_neg, fun _ => ⟨?_, z⟩⟩
      unfold rd_head
      rw [if_neg e1]
      exact ⟨rfl, h2, by dsimp only; decide, p2, e2, e3⟩
def rd_tot (bs : List Nat) (tot p : Nat) : rd_R Nat := if p + 16 ≤ 8 * bs.length then (if bt_num bs p 16 = tot then .inr (0, (p + 16 + 7) / 8 * 8) else .inl (-15, p)) else .inl (-2, p)
theorem c_readTotal (l : Launch) (d : Nat) {I : zi_I} {tot : Nat} (g : g_Main K RJ o tl nx) (ht : tot < 65536) (a : a_Row I (o + 1) 400 bs) (hp : I (o + 7) 1 = nI p) (hp2 : p ≤ 8 * bs.length) :
    zi_C l (zx_rm (d + 2) 0 0) M_Main_readTotal [.ref o, .int (nI tot)] K RJ I (fun r I2 => rd_pv (rd_tot bs tot p) (8 * bs.length) (o + 7) r I2 ∧ zg (o + 7) [1, 2] [] I I2) := by
  have h8 := bits_ok g.r.b a
  have b16 := bn_lt bs p (k := 16) (by decide)
  refine zi_of (by decide) (fun α => Nat.le_of_ble_eq_true rfl) (r_Main_readTotal_0 l (d + 1) o _ g.k g.bR (by omega) g.r.b.1 (zi_mono (c_tn (k := 16) l d g.r.b a hp hp2 (by decide) (by decide)) ?_))
  rintro r I2 ⟨⟨v, rfl, hv⟩, h2, z⟩
  refine ⟨v, rfl, fun c => ?_, fun c => ?_⟩
  · rcases hv with ⟨e1, rfl, e3⟩ | ⟨_, rfl, _⟩
    · rw [nI_eq (by omega) (by omega)] at c
      refine zi_mono (c_skipToByte (p := p + 16) l (d + 1) g.r.b.1 e3 (by omega)) ?_
      rintro r I3 ⟨rfl, rfl⟩
      refine ⟨rfl, ?_, zg_trans z (zg_fld (by simp))⟩
      unfold rd_tot
      rw [if_pos e1, if_pos c]
      exact ⟨rfl, zx_u2_s, by dsimp only; omega⟩
    · exact absurd c.symm (fun h => by
        have : nI tot < 0 := by rw [h]; decide
        exact absurd this (nI_pos (by omega)))
  · rcases hv with ⟨e1, rfl, e3⟩ | ⟨e1, rfl, p2, e2, e3⟩
    · rw [nI_eq (by omega) (by omega)] at c
      refine ⟨fun _ => ⟨?_, z⟩, fun x => absurd (nI_pos' (by omega)) x⟩
      unfold rd_tot
      rw [if_pos e1, if_neg c]
      exact ⟨rfl, h2, by dsimp only; decide, p + 16, by omega, e3⟩
    · refine ⟨fun x => absurd x m2_neg, fun _ => ⟨?_, z⟩⟩
      unfold rd_tot
      rw [if_neg e1]
      exact ⟨rfl, h2, by dsimp only; decide, p2, e2, e3⟩
/-- how the reading of a stream ends -/
def cs_post (rd : rd_R st_V) (n8 o nx : Nat) (r : Option Value) (I2 : zi_I) : Prop :=
  match rd with
  | .inl e => r = some (.int e.1) ∧ e.1 ≠ 0 ∧ (e.1 ≠ 1 → I2 (o + 7) 2 = nI e.2) ∧ (∃ p2, p2 < 2 ^ 20 ∧ I2 (o + 7) 1 = nI p2) ∧ ∃ L, a_Row I2 (o + 5) 2000 L
  | .inr v => r = some (.int 0) ∧ I2 (o + 7) 1 = nI v.2 ∧ v.2 ≤ n8 ∧ a_Row I2 (o + 5) 2000 v.1.1 ∧ I2 o 10 = nI v.1.2.1 ∧ (0 < v.1.2.1 → a_Blk I2 nx v.1.2.2 ∧ bk_ok v.1.2.2)
def cs_S (o nx : Nat) : List Nat := rb_S (o + 8) (o + 7) (o + 5) nx
theorem cs_mem {q : Nat} : q ∈ cs_S o nx ↔ (o + 5 ≤ q ∧ q < o + 38) ∨ (nx ≤ q ∧ q < nx + 11) := by
  unfold cs_S
  rw [rb_mem]
  omega
theorem t_cs26 (l : Launch) (d : Nat) {Q : zi_Q} {lv : Nat} (g : g_Main K RJ o tl nx) (hlv : lv ≤ 8) :
    ∀ (j k tot n p : Nat) (fs : List Nat) (B : bk_B) (x3 : Int32) (I : zi_I), k + j = 3200 → 24 * k ≤ p → p ≤ 8 * bs.length → tot < 65536 → n ≤ k + 3200 → a_Row I (o + 1) 400 bs → I (o + 7) 2 = nI p → ((p + 24 ≤ 8 * bs.length ∧ x3 = nI (bt_num bs p 24) ∧ I (o + 7) 1 = nI (p + 24)) ∨ (¬ p + 24 ≤ 8 * bs.length ∧ x3 = -2 ∧ ∃ p2, p2 < 2 ^ 20 ∧ I (o + 7) 1 = nI p2)) → a_Row I (o + 5) 2000 fs → I o 10 = nI n → (0 < n → a_Blk I nx B ∧ bk_ok B) →
      (∀ r I2, cs_post (rd_str bs lv j tot fs n B p) (8 * bs.length) o nx r I2 → zg o [10] (cs_S o nx) I I2 → Q r I2) →
      zi_X l (zx_rm (d + 5) 0 0) M_Main_readStream K RJ Q 26 [(0, .ref o), (1, .int (nI lv)), (2, .int (nI tot)), (3, .int x3), (4, .int (nI k))] [] I := by
  have hdd := g.d
  have hnx : nx ≠ 0 := by omega
  have n57 : o + 5 ∉ [o, o + 7] := by simp only [List.mem_cons, List.not_mem_nil, or_false, not_or]; omega
  have n67 : o + 5 + 1 ∉ [o, o + 7] := by simp only [List.mem_cons, List.not_mem_nil, or_false, not_or]; omega
  have h34 : ∀ q ∈ [o, o + 7], q < nx ∨ nx + 10 < q := fun q hq => by simp only [List.mem_cons, List.not_mem_nil, or_false] at hq; omega
  intro j
  induction j with
  | zero =>
    intro k tot n p fs B x3 I hk hkp hp ht hn a hb hm af h10 hB q
    have h8 := bits_ok g.r.b a
    omega
  | succ j ih =>
    intro k tot n p fs B x3 I hk hkp hp ht hn a hb hm af h10 hB q
    have h8 := bits_ok g.r.b a
    have b24 := bn_lt bs p (k := 24) (by decide)
    rw [rd_str_s] at q
    have zb : ∀ {I I2 : zi_I}, zg (o + 7) [1, 2] [] I I2 → zg o [10] (cs_S o nx) I I2 := fun {_ _} z => ⟨fun j _ => zf_at z.2 (by simp) j, zf_mono z.2 (fun q hq => by
      simp only [List.mem_cons, List.not_mem_nil, or_false] at hq
      rw [List.mem_cons, cs_mem]
      omega)⟩
    refine r_Main_readStream_26 l (d + 4) o _ _ _ _ g.k g.rR (by omega) g.nR hnx g.fR (by omega) g.r.k g.n.k g.bR (by omega) g.r.b.1 ⟨fun c => ?_, fun _ => ⟨fun c => ⟨fun c2 => ?_, fun c2 => ⟨fun c3 => ?_, fun c3 => ?_⟩⟩, fun c => ?_⟩⟩
    · rw [show (3200 : Int32) = nI 3200 from rfl, nI_leI (by omega) (by omega)] at c
      omega
    · -- the end of the stream
      rcases hm with ⟨e1, rfl, e3⟩ | ⟨_, rfl, _⟩
      · rw [show (1536581 : Int32) = nI 1536581 from rfl, nI_eq (by omega) (by omega)] at c2
        rw [if_pos e1, if_pos c2] at q
        refine zi_mono (c_readTotal (tot := tot) (p := p + 24) l (d + 2) g ht a e3 e1) ?_
        rintro r I2 ⟨hr, z⟩
        have z1 := zb z
        unfold rd_tot at hr
        by_cases f1 : p + 24 + 16 ≤ 8 * bs.length
        · rw [if_pos f1] at q hr
          by_cases f2 : bt_num bs (p + 24) 16 = tot
          · rw [if_pos f2] at q hr
            obtain ⟨rfl, k1, k2⟩ := hr
            refine ⟨_, rfl, q _ I2 ⟨rfl, k1, k2, af.keep z.2 (by simp) (by simp), by rw [zf_at z.2 (by simp)]; exact h10, fun h => ?_⟩ z1⟩
            obtain ⟨b1, b2⟩ := hB h
            exact ⟨b1.keep b2.T z.2 (fun q hq => by simp only [List.mem_cons, List.not_mem_nil, or_false] at hq; omega), b2⟩
          · rw [if_neg f2] at q hr
            obtain ⟨rfl, k1, k2, k3⟩ := hr
            exact ⟨_, rfl, q _ I2 ⟨rfl, by dsimp only; decide, fun _ => k1, k3, fs, af.keep z.2 (by simp) (by simp)⟩ z1⟩
        · rw [if_neg f1] at q hr
          obtain ⟨rfl, k1, k2, k3⟩ := hr
          exact ⟨_, rfl, q _ I2 ⟨rfl, by dsimp only; decide, fun _ => k1, k3, fs, af.keep z.2 (by simp) (by simp)⟩ z1⟩
      · exact absurd c2 (by decide)
    · rcases hm with ⟨e1, rfl, e3⟩ | ⟨_, rfl, _⟩
      · rw [show (1536581 : Int32) = nI 1536581 from rfl, nI_eq (by omega) (by omega)] at c2
        rw [show (3227993 : Int32) = nI 3227993 from rfl, nI_eq (by omega) (by omega)] at c
        rw [if_pos e1, if_neg c2, if_neg c] at q
        exact q _ I ⟨rfl, by dsimp only; decide, fun _ => hb, ⟨p + 24, by omega, e3⟩, fs, af⟩ zg_refl
      · exact absurd c3 m2_neg
    · rcases hm with ⟨e1, rfl, e3⟩ | ⟨e1, rfl, p2, e2, e3⟩
      · exact absurd (nI_pos' (by omega)) c3
      · rw [if_neg e1] at q
        exact q _ I ⟨rfl, by dsimp only; decide, fun _ => hb, ⟨p2, e2, e3⟩, fs, af⟩ zg_refl
    · -- a block
      rcases hm with ⟨e1, rfl, e3⟩ | ⟨_, rfl, _⟩
      · rw [show (3227993 : Int32) = nI 3227993 from rfl, nI_eq (by omega) (by omega)] at c
        rw [if_pos e1, if_neg (by omega), if_pos c] at q
        rw [show (8 : Int32) * nI lv = nI (8 * lv) by rw [show (8 : Int32) = nI 8 from rfl, pk_mul]]
        refine zi_mono (c_readBlock (bs := bs) (fs := fs) (N := 400) (p := p + 24) (lim := 8 * lv) l d g.r g.n g.f (by omega) (by omega) (by omega) (by omega) (by omega) a af e3 e1) ?_
        rintro r I2 ⟨hr, z⟩
        have z1 : zg o [10] (cs_S o nx) I I2 := ⟨fun j _ => zf_at z (by rw [show rb_S (o + 8) (o + 7) (o + 5) nx = cs_S o nx from rfl, cs_mem]; omega) j, zf_mono z (fun q hq => List.mem_cons_of_mem _ hq)⟩
        cases e : rd_block bs (8 * lv) (p + 24) with
        | inl f =>
          rw [e] at hr q
          obtain ⟨rfl, k1, k2, k3, k4⟩ := hr
          refine ⟨_, rfl, fun x => absurd x (neg_ne k2), fun _ => q _ I2 ⟨rfl, neg_ne k2, fun _ => k1, k3, fs, k4⟩ z1⟩
        | inr v =>
          rw [e] at hr q
          simp only at q
          rcases hr with ⟨k0, rfl, k2, k3⟩ | ⟨k0, k1, rfl, k3, k4, k5, k6, k7⟩ | ⟨k0, k1, rfl, k3, k4, k5⟩
          · rw [if_pos k0] at q
            exact ⟨_, rfl, fun x => absurd x (by decide), fun _ => q _ I2 ⟨rfl, by dsimp only; decide, fun h => absurd rfl h, k2, fs, k3⟩ z1⟩
          · rw [if_neg k0, if_pos k1] at q
            have hge := rd_block_ge (v := v.1) (q := v.2) e
            have hch := k7.ch
            refine ⟨_, rfl, fun _ => ?_, fun x => absurd rfl x⟩
            rw [k6.ch]
            refine zi_mono (c_nextTotal l (d + 4) ht) ?_
            rintro r I3 ⟨rfl, rfl⟩
            have h103 : I3 o 10 = nI n := by rw [z1.1 10 |> fun _ => zf_at z (by rw [show rb_S (o + 8) (o + 7) (o + 5) nx = cs_S o nx from rfl, cs_mem]; omega)]; exact h10
            refine ⟨_, rfl, ?_⟩
            rw [h103, nI_1]
            have z3 : zf [o] I3 (zx_u2 I3 o 10 (nI (n + 1))) := zf_u2 (by simp)
            have a3 : a_Row (zx_u2 I3 o 10 (nI (n + 1))) (o + 1) 400 bs := (a.keep z (by rw [show rb_S (o + 8) (o + 7) (o + 5) nx = cs_S o nx from rfl, cs_mem]; omega) (by rw [show rb_S (o + 8) (o + 7) (o + 5) nx = cs_S o nx from rfl, cs_mem]; omega)).keep z3 (by simp <;> omega) (by simp <;> omega)
            refine zi_mono (c_tn (k := 24) (p := v.2) l (d + 3) g.r.b a3 (by rw [zx_u2_ne (by omega)]; exact k3) k4 (by decide) (by decide)) ?_
            rintro r I4 ⟨⟨w, rfl, hw⟩, h4, z4⟩
            rw [nI_1]
            have z4' : zg o [10] (cs_S o nx) I I4 := zg_trans (zg_trans z1 (zg_fld (by simp))) (zb z4)
            have z34 : zf [o, o + 7] I3 I4 := zf_trans (zf_mono z3 (by simp)) (zf_mono z4.2 (by simp))
            refine ⟨_, rfl, ih (k + 1) _ (n + 1) v.2 (fs ++ v.1.2) v.1.1 w I4 (by omega) (by omega) k4 (tt_lt ht hch) (by omega) (a3.keep z4.2 (by simp) (by simp)) h4 hw (k5.keep z34 n57 n67) (by rw [zf_at z4.2 (by simp), zx_u2_s]) (fun _ => ⟨k6.keep k7.T z34 h34, k7⟩) (fun r I5 y1 y2 => q r I5 y1 (zg_trans z4' y2))⟩
          · rw [if_neg k0, if_neg k1] at q
            exact ⟨_, rfl, fun x => absurd x (by decide), fun _ => q _ I2 ⟨rfl, by dsimp only; decide, fun _ => k3, k4, fs, k5⟩ z1⟩
      · exact absurd c (by decide)
theorem c_readStream (l : Launch) (d : Nat) {I : zi_I} {n : Nat} {fs : List Nat} {B : bk_B} (g : g_Main K RJ o tl nx) (hn : n ≤ 3200) (a : a_Row I (o + 1) 400 bs) (hp : I (o + 7) 1 = nI p) (hp2 : p ≤ 8 * bs.length) (af : a_Row I (o + 5) 2000 fs) (h10 : I o 10 = nI n) (hB : 0 < n → a_Blk I nx B ∧ bk_ok B) :
    zi_C l (zx_rm (d + 5) 0 0) M_Main_readStream [.ref o] K RJ I (fun r I2 => cs_post (rd_stream bs fs n B p) (8 * bs.length) o nx r I2 ∧ zg o [10] (cs_S o nx) I I2) := by
  have hdd := g.d
  have h8 := bits_ok g.r.b a
  have zb : ∀ {I I2 : zi_I}, zg (o + 7) [1, 2] [] I I2 → zg o [10] (cs_S o nx) I I2 := fun {_ _} z => ⟨fun j _ => zf_at z.2 (by simp) j, zf_mono z.2 (fun q hq => by
    simp only [List.mem_cons, List.not_mem_nil, or_false] at hq
    rw [List.mem_cons, cs_mem]
    omega)⟩
  refine zi_of (by decide) (fun α => Nat.le_of_ble_eq_true rfl) (r_Main_readStream_0 l (d + 4) o g.k g.bR (by omega) g.r.b.1 (zi_mono (c_readHead (bs := bs) l (d + 2) g a hp hp2) ?_))
  rintro r I2 ⟨hr, z⟩
  cases e : rd_head bs p with
  | inl f =>
    rw [e] at hr
    obtain ⟨rfl, k1, k2, k3⟩ := hr
    refine ⟨_, rfl, fun x => absurd k2 (by rw [Int32.not_lt]; exact x), fun _ => ⟨?_, zb z⟩⟩
    rw [show rd_stream bs fs n B p = .inl f by unfold rd_stream; rw [e]]
    exact ⟨rfl, neg_ne k2, fun _ => k1, k3, fs, af.keep z.2 (by simp) (by simp)⟩
  | inr v =>
    obtain ⟨lv, q⟩ := v
    rw [e] at hr
    obtain ⟨rfl, k1, k2⟩ := hr
    dsimp only at k1 k2
    obtain ⟨t1, t2, t3, t4⟩ := rd_head_ok e
    have a2 := a.keep z.2 (by simp) (by simp)
    refine ⟨_, rfl, fun _ => ?_, fun x => absurd (nI_pos' (by omega)) x⟩
    refine zi_mono (c_tn (k := 24) (p := q) l (d + 3) g.r.b a2 k1 k2 (by decide) (by decide)) ?_
    rintro r I3 ⟨⟨w, rfl, hw⟩, h3, z3⟩
    have zz := zg_trans z z3
    refine ⟨w, rfl, t_cs26 (bs := bs) (lv := lv) l d g t2 3200 0 0 n q fs B w I3 (by omega) (by omega) k2 (by decide) (by omega) (a2.keep z3.2 (by simp) (by simp)) h3 hw (af.keep zz.2 (by simp) (by simp)) (by rw [zf_at zz.2 (by simp)]; exact h10) (fun h => ?_) (fun r I4 y1 y2 => ⟨?_, zg_trans (zb zz) y2⟩)⟩
    · obtain ⟨b1, b2⟩ := hB h
      exact ⟨b1.keep b2.T zz.2 (fun q hq => by simp only [List.mem_cons, List.not_mem_nil, or_false] at hq; omega), b2⟩
    · rw [show rd_stream bs fs n B p = rd_str bs lv 3200 0 fs n B q by unfold rd_stream; rw [e]]
      exact y1
end CST
