/-! The class reads numbers, maps and counts. -/
def g_BR (K : zx_Kt) (RJ : zx_RJ) (o br ro N : Nat) : Prop := ((K.2 o).1 = 11) ∧ (RJ.1 o 0 = br) ∧ (br ≠ 0) ∧ (g_Bits K RJ br ro N) ∧ (RJ.1 o 1 = o + 1) ∧ (g_ML K RJ (o + 1)) ∧ (RJ.1 o 2 = o + 3) ∧ (K.2 (o + 3) = (3, 4)) ∧ (∀ t, t < 4 → RJ.1 (o + 3) t = o + 6 + 6 * t ∧ g_Codes K RJ (o + 6 + 6 * t) 258) ∧ (RJ.1 o 3 = o + 4) ∧ (K.2 (o + 4) = (0, 64)) ∧ (RJ.1 o 4 = o + 5) ∧ (K.2 (o + 5) = (0, 256))
theorem g_BR.k {K : zx_Kt} {RJ : zx_RJ} {o br ro N : Nat} (h : g_BR K RJ o br ro N) : (K.2 o).1 = 11 := h.1
theorem g_BR.bR {K : zx_Kt} {RJ : zx_RJ} {o br ro N : Nat} (h : g_BR K RJ o br ro N) : RJ.1 o 0 = br := h.2.1
theorem g_BR.b0 {K : zx_Kt} {RJ : zx_RJ} {o br ro N : Nat} (h : g_BR K RJ o br ro N) : br ≠ 0 := h.2.2.1
theorem g_BR.b {K : zx_Kt} {RJ : zx_RJ} {o br ro N : Nat} (h : g_BR K RJ o br ro N) : g_Bits K RJ br ro N := h.2.2.2.1
theorem g_BR.lR {K : zx_Kt} {RJ : zx_RJ} {o br ro N : Nat} (h : g_BR K RJ o br ro N) : RJ.1 o 1 = o + 1 := h.2.2.2.2.1
theorem g_BR.l {K : zx_Kt} {RJ : zx_RJ} {o br ro N : Nat} (h : g_BR K RJ o br ro N) : g_ML K RJ (o + 1) := h.2.2.2.2.2.1
theorem g_BR.cR {K : zx_Kt} {RJ : zx_RJ} {o br ro N : Nat} (h : g_BR K RJ o br ro N) : RJ.1 o 2 = o + 3 := h.2.2.2.2.2.2.1
theorem g_BR.cK {K : zx_Kt} {RJ : zx_RJ} {o br ro N : Nat} (h : g_BR K RJ o br ro N) : K.2 (o + 3) = (3, 4) := h.2.2.2.2.2.2.2.1
theorem g_BR.c {K : zx_Kt} {RJ : zx_RJ} {o br ro N : Nat} (h : g_BR K RJ o br ro N) : ∀ t, t < 4 → RJ.1 (o + 3) t = o + 6 + 6 * t ∧ g_Codes K RJ (o + 6 + 6 * t) 258 := h.2.2.2.2.2.2.2.2.1
theorem g_BR.fR {K : zx_Kt} {RJ : zx_RJ} {o br ro N : Nat} (h : g_BR K RJ o br ro N) : RJ.1 o 3 = o + 4 := h.2.2.2.2.2.2.2.2.2.1
theorem g_BR.fK {K : zx_Kt} {RJ : zx_RJ} {o br ro N : Nat} (h : g_BR K RJ o br ro N) : K.2 (o + 4) = (0, 64) := h.2.2.2.2.2.2.2.2.2.2.1
theorem g_BR.pR {K : zx_Kt} {RJ : zx_RJ} {o br ro N : Nat} (h : g_BR K RJ o br ro N) : RJ.1 o 4 = o + 5 := h.2.2.2.2.2.2.2.2.2.2.2.1
theorem g_BR.pK {K : zx_Kt} {RJ : zx_RJ} {o br ro N : Nat} (h : g_BR K RJ o br ro N) : K.2 (o + 5) = (0, 256) := h.2.2.2.2.2.2.2.2.2.2.2.2
/-- how a part of the reading ends: the fault, or 0 and what is read -/
def rd_post {α : Type} (rd : rd_R α) (n8 br : Nat) (r : Option Value) (I2 : zi_I) (P : α → Prop) : Prop :=
  match rd with
  | .inl e => r = some (.int e.1) ∧ I2 br 2 = nI e.2 ∧ e.1 < 0 ∧ ∃ p2, p2 < 2 ^ 20 ∧ I2 br 1 = nI p2
  | .inr v => r = some (.int 0) ∧ I2 br 1 = nI v.2 ∧ v.2 ≤ n8 ∧ P v.1
section CR
variable {K : zx_Kt} {RJ : zx_RJ} {o br ro N b p : Nat} {bs : List Nat}
theorem bits_ok {I : zi_I} (g : g_Bits K RJ br ro N) (a : a_Row I ro N bs) : 8 * bs.length ≤ 3200 := by
  have h1 := a.1
  have h2 := g.2.2.2.2
  omega
/-- takeNumber, by cases -/
theorem c_tn (l : Launch) (d : Nat) {I : zi_I} {k : Nat} (g : g_Bits K RJ br ro N) (a : a_Row I ro N bs) (hp : I br 1 = nI p) (hp2 : p ≤ 8 * bs.length) (hk : k ≤ 24) (hk0 : 0 < k) :
    zi_C l (zx_rm (d + 1) 0 0) M_BitReader_takeNumber [.ref br, .int (nI k)] K RJ I (fun r I2 => (∃ v, r = some (.int v) ∧ ((p + k ≤ 8 * bs.length ∧ v = nI (bt_num bs p k) ∧ I2 br 1 = nI (p + k)) ∨ (¬ p + k ≤ 8 * bs.length ∧ v = -2 ∧ ∃ p2, p2 < 2 ^ 20 ∧ I2 br 1 = nI p2))) ∧ I2 br 2 = nI p ∧ zg br [1, 2] [] I I2) := by
  have h8 := bits_ok g a
  refine zi_mono (c_takeNumber l d g a hp (by omega) hk hk0) ?_
  rintro r I2 (⟨h1, rfl, rfl⟩ | ⟨h1, rfl, p2, h2, rfl⟩)
  · exact ⟨⟨_, rfl, Or.inl ⟨h1, rfl, zx_u2_s⟩⟩, by rw [zx_u2_k (by omega), zx_u2_s], zg_trans (zg_fld (by simp)) (zg_fld (by simp))⟩
  · exact ⟨⟨_, rfl, Or.inr ⟨by omega, rfl, p2, h2, zx_u2_s⟩⟩, by rw [zx_u2_k (by omega), zx_u2_s], zg_trans (zg_fld (by simp)) (zg_fld (by simp))⟩
theorem m2_neg : ¬ (0 : Int32) ≤ -2 := by decide
theorem bn_lt (bs : List Nat) (p : Nat) {k : Nat} (hk : k ≤ 24) : bt_num bs p k < 2 ^ 24 := Nat.lt_of_lt_of_le (bt_num_lt bs p k) (Nat.pow_le_pow_right (by decide) hk)
theorem c_readNumbers (l : Launch) (d : Nat) {I : zi_I} (g : g_BR K RJ o br ro N) (gb : g_Block K RJ b) (hd : ro + 1 < br) (hb : br < b) (a : a_Row I ro N bs) (hp : I br 1 = nI p) (hp2 : p ≤ 8 * bs.length) :
    zi_C l (zx_rm (d + 2) 0 0) M_BlockReader_readNumbers [.ref o, .ref b] K RJ I (fun r I2 => rd_post (rd_nums bs p) (8 * bs.length) br r I2 (fun v => I2 b 0 = nI v.1 ∧ I2 b 1 = nI v.2) ∧ zg b [0, 1] [br] I I2) := by
  have b24 := fun p k (hk : k ≤ 24) => bn_lt bs p hk
  refine zi_of (by decide) (fun α => Nat.le_of_ble_eq_true rfl) (r_BlockReader_readNumbers_0 l (d + 1) o b g.k g.bR g.b0 g.b.1 gb.k (zi_mono (c_tn (k := 16) l d g.b a hp hp2 (by decide) (by decide)) ?_))
  rintro r I2 ⟨⟨v, rfl, hv⟩, h2, z⟩
  have z1 : ∀ v, zg b [0, 1] [br] I (zx_u2 I2 b 0 v) := fun v => zg_trans ⟨fun j _ => zf_at z.2 (by simp; omega) j, zf_mono z.2 (by simp)⟩ (zg_fld (by simp))
  refine ⟨v, rfl, fun c => ?_, fun c => ?_⟩
  · rcases hv with ⟨e1, rfl, e3⟩ | ⟨_, rfl, _⟩
    · have a2 : a_Row (zx_u2 I2 b 0 (nI (bt_num bs p 16))) ro N bs := (a.keep z.2 (by simp; omega) (by simp; omega)).keep (zf_u2 (S := [b]) (by simp)) (by simp; omega) (by simp; omega)
      refine zi_mono (c_tn (k := 6) (p := p + 16) l d g.b a2 (by rw [zx_u2_ne (by omega)]; exact e3) e1 (by decide) (by decide)) ?_
      rintro r I3 ⟨⟨w, rfl, hw⟩, h3, z3⟩
      have h30 : I3 b 0 = nI (bt_num bs p 16) := by rw [zf_at z3.2 (by simp; omega), zx_u2_s]
      have z4 : ∀ v, zg b [0, 1] [br] I (zx_u2 I3 b 1 v) := fun v => zg_trans (zg_trans (z1 _) ⟨fun j _ => zf_at z3.2 (by simp; omega) j, zf_mono z3.2 (by simp)⟩) (zg_fld (by simp))
      refine ⟨w, rfl, fun c2 => ?_, fun c2 => ?_⟩
      · rcases hw with ⟨f1, rfl, f3⟩ | ⟨_, rfl, _⟩
        · refine ⟨?_, z4 _⟩
          unfold rd_nums rd_post
          rw [if_pos e1, if_pos f1]
          exact ⟨rfl, by rw [zx_u2_ne (by omega)]; exact f3, f1, by rw [zx_u2_k (by omega)]; exact h30, zx_u2_s⟩
        · exact absurd c2 m2_neg
      · rcases hw with ⟨f1, rfl, f3⟩ | ⟨f1, rfl, p2, f2, f3⟩
        · exact absurd (nI_pos' (Nat.lt_trans (b24 _ _ (by decide)) (by decide))) c2
        · refine ⟨?_, z4 _⟩
          unfold rd_nums rd_post
          rw [if_pos e1, if_neg f1]
          exact ⟨rfl, by rw [zx_u2_ne (by omega)]; exact h3, by dsimp only; decide, p2, f2, by rw [zx_u2_ne (by omega)]; exact f3⟩
    · exact absurd c m2_neg
  · rcases hv with ⟨e1, rfl, e3⟩ | ⟨e1, rfl, p2, f2, f3⟩
    · exact absurd (nI_pos' (Nat.lt_trans (b24 _ _ (by decide)) (by decide))) c
    · refine ⟨?_, z1 _⟩
      unfold rd_nums rd_post
      rw [if_neg e1]
      exact ⟨rfl, by rw [zx_u2_ne (by omega)]; exact h2, by dsimp only; decide, p2, f2, by rw [zx_u2_ne (by omega)]; exact f3⟩
theorem t_ak2 (l : Launch) (d : Nat) {Q : zi_Q} {k v : Nat} {u : Nat → Bool} (gb : g_Block K RJ b) (hk : k < 16) (hv : v < 2 ^ 16) :
    ∀ (j i : Nat) (I : zi_I), i + j = 16 → aL I b 5 (b + 3) (kf (mp_set u k v) (16 * k + i)) →
      (∀ I2, aL I2 b 5 (b + 3) (kf (mp_set u k v) (16 * k + 16)) → zg b [5] [b + 3] I I2 → Q none I2) →
      zi_X l (zx_rm (d + 1) 0 0) M_BlockReader_addKinds K RJ Q 2 [(0, .ref b), (1, .int (nI (16 * k))), (2, .int (nI v)), (3, .int (nI i))] [] I := by
  intro j
  induction j with
  | zero =>
    intro i I hi a q
    obtain rfl : i = 16 := by omega
    exact r_BlockReader_addKinds_2 l d b _ _ _ gb.k ⟨fun _ => q I a zg_refl, fun c => absurd (by decide) c⟩
  | succ j ih =>
    intro i I hi a q
    have hl := kf_le (mp_set u k v) (16 * k + i)
    have es := kf_s (mp_set u k v) (16 * k + i)
    rw [mp_set_in (by omega)] at es
    refine r_BlockReader_addKinds_2 l d b _ _ _ gb.k ⟨fun c => ?_, fun _ => zi_mono (c_mapBit (i := i) l d (by omega)) ?_⟩
    · rw [show (16 : Int32) = nI 16 from rfl, nI_leI (by omega) (by omega)] at c
      omega
    · rintro r I2 ⟨rfl, rfl⟩
      have hand : nI v &&& nI (2 ^ (15 - i)) = 0 ↔ ¬ v / 2 ^ (15 - i) % 2 = 1 := by
        rw [zb_and, show (0 : Int32) = nI 0 from rfl, nI_eq (Nat.lt_of_le_of_lt Nat.and_le_left (by omega)) (by omega), and_pow]
      refine ⟨_, rfl, fun c => ?_, fun c => ?_⟩
      · rw [hand] at c
        rw [nI_1]
        refine ih (i + 1) I2 (by omega) ?_ q
        rw [← Nat.add_assoc, es, if_neg (by rw [decide_eq_true_iff]; exact c)]
        exact a
      · rw [hand, Classical.not_not] at c
        rw [nI_add]
        refine zi_mono (c_addKind l d gb a (by omega)) ?_
        rintro r I3 ⟨rfl, v1, v2⟩
        rw [nI_1]
        refine ⟨rfl, ih (i + 1) I3 (by omega) ?_ (fun I4 y1 y2 => q I4 y1 (zg_trans v2 y2))⟩
        rw [← Nat.add_assoc, es, if_pos (by rw [decide_eq_true_iff]; exact c)]
        exact v1
theorem c_addKinds (l : Launch) (d : Nat) {I : zi_I} {k v : Nat} {u : Nat → Bool} (gb : g_Block K RJ b) (hk : k < 16) (hv : v < 2 ^ 16) (a : aL I b 5 (b + 3) (kf u (16 * k))) :
    zi_C l (zx_rm (d + 1) 0 0) M_BlockReader_addKinds [.ref b, .int (nI (16 * k)), .int (nI v)] K RJ I (fun r I2 => r = none ∧ aL I2 b 5 (b + 3) (kf (mp_set u k v) (16 * k + 16)) ∧ zg b [5] [b + 3] I I2) := by
  refine zi_of (by decide) (fun α => Nat.le_of_ble_eq_true rfl) (r_BlockReader_addKinds_0 l d b _ _ (t_ak2 (k := k) (v := v) (u := u) l d gb hk hv 16 0 I (by omega) ?_ (fun I2 y1 y2 => ⟨rfl, y1, y2⟩)))
  rw [Nat.add_zero, kf_congr (v := u) (fun b hb => mp_set_out (by omega))]
  exact a
theorem t_rm23 (l : Launch) (d : Nat) {Q : zi_Q} {used : Nat} (g : g_BR K RJ o br ro N) (gb : g_Block K RJ b) (hd : ro + 1 < br) (hb : br < b) (hu : used < 2 ^ 16) :
    ∀ (j i p bg : Nat) (u : Nat → Bool) (I : zi_I), i + j = 16 → a_Row I ro N bs → I br 1 = nI p → p ≤ 8 * bs.length → I br 2 = nI bg → aL I b 5 (b + 3) (kf u (16 * i)) → (∀ x, 16 * i ≤ x → u x = false) →
      (∀ r I2, rd_post (rd_mapL bs used j i u p bg) (8 * bs.length) br r I2 (fun u => aL I2 b 5 (b + 3) (kf u 256)) → zg b [5] [b + 3, br] I I2 → Q r I2) →
      zi_X l (zx_rm (d + 2) 0 0) M_BlockReader_readMap K RJ Q 23 [(0, .ref o), (1, .ref b), (2, .int (nI used)), (3, .int (nI i))] [] I := by
  intro j
  induction j with
  | zero =>
    intro i p bg u I hi a hp hp2 hbg ak hz q
    obtain rfl : i = 16 := by omega
    have hl := kf_le u 256
    have ak1 : I b 5 = nI (kf u 256).length := ak.1
    refine r_BlockReader_readMap_23 l (d + 1) o b _ _ gb.k g.k g.bR g.b0 g.b.1 ⟨fun _ => ⟨fun c => ?_, fun c => ?_⟩, fun c => absurd (by decide) c⟩
    · rw [ak1, show (0 : Int32) = nI 0 from rfl, nI_eq (by omega) (by omega)] at c
      refine q _ I ?_ zg_refl
      unfold rd_mapL rd_post
      rw [if_neg c]
      exact ⟨rfl, hp, hp2, ak⟩
    · rw [ak1, show (0 : Int32) = nI 0 from rfl, nI_eq (by omega) (by omega)] at c
      refine q _ I ?_ zg_refl
      unfold rd_mapL rd_post
      rw [if_pos c]
      exact ⟨rfl, hbg, by dsimp only; decide, p, by have := bits_ok g.b a; omega, hp⟩
  | succ j ih =>
    intro i p bg u I hi a hp hp2 hbg ak hz q
    refine r_BlockReader_readMap_23 l (d + 1) o b _ _ gb.k g.k g.bR g.b0 g.b.1 ⟨fun c => ?_, fun _ => zi_mono (c_mapBit (i := i) l (d + 1) (by omega)) ?_⟩
    · rw [show (16 : Int32) = nI 16 from rfl, nI_leI (by omega) (by omega)] at c
      omega
    · rintro r I2 ⟨rfl, rfl⟩
      have hand : nI used &&& nI (2 ^ (15 - i)) = 0 ↔ ¬ used / 2 ^ (15 - i) % 2 = 1 := by
        rw [zb_and, show (0 : Int32) = nI 0 from rfl, nI_eq (Nat.lt_of_le_of_lt Nat.and_le_left (by omega)) (by omega), and_pow]
      refine ⟨_, rfl, fun c => ?_, fun c => ?_⟩
      · rw [hand] at c
        rw [nI_1]
        refine ih (i + 1) p bg u I2 (by omega) a hp hp2 hbg ?_ (fun x hx => hz x (by omega)) (fun r I3 y1 y2 => q r I3 ?_ y2)
        · rw [show 16 * (i + 1) = 16 * i + 16 by omega, kf_skip 16 (fun x h1 _ => hz x h1)]
          exact ak
        · unfold rd_mapL
          rw [if_neg c]
          exact y1
      · rw [hand, Classical.not_not] at c
        refine zi_mono (c_tn (k := 16) l d g.b a hp hp2 (by decide) (by decide)) ?_
        rintro r I3 ⟨⟨v, rfl, hv⟩, h2, z⟩
        have z1 : zg b [5] [b + 3, br] I2 I3 := ⟨fun j _ => zf_at z.2 (by simp; omega) j, zf_mono z.2 (by simp)⟩
        refine ⟨v, rfl, fun c2 => ?_, fun c2 => ?_⟩
        · rcases hv with ⟨e1, rfl, e3⟩ | ⟨_, rfl, _⟩
          · rw [show (16 : Int32) * nI i = nI (16 * i) by rw [show (16 : Int32) = nI 16 from rfl, pk_mul]]
            refine zi_mono (c_addKinds (k := i) (v := bt_num bs p 16) (u := u) l d gb (by omega) (bt_num_lt bs p 16) ⟨by rw [zf_at z.2 (by simp; omega)]; exact ak.1, fun x hx => by rw [zf_at z.2 (by simp; omega)]; exact ak.2 x hx⟩) ?_
            rintro r I4 ⟨rfl, w1, w2⟩
            have z4 : zg b [5] [b + 3, br] I2 I4 := zg_trans z1 (zg_mono w2 (by simp) (by simp))
            rw [nI_1]
            refine ⟨rfl, ih (i + 1) (p + 16) p (mp_set u i (bt_num bs p 16)) I4 (by omega) ((a.keep z.2 (by simp; omega) (by simp; omega)).keep w2.2 (by simp; omega) (by simp; omega)) (by rw [zf_at w2.2 (by simp; omega)]; exact e3) e1 (by rw [zf_at w2.2 (by simp; omega)]; exact h2) w1 (fun x hx => by rw [mp_set_out (by omega)]; exact hz x (by omega)) (fun r I5 y1 y2 => q r I5 ?_ (zg_trans z4 y2))⟩
            unfold rd_mapL
            rw [if_pos c, if_pos e1]
            exact y1
          · exact absurd c2 m2_neg
        · rcases hv with ⟨e1, rfl, e3⟩ | ⟨e1, rfl, p2, f2, f3⟩
          · exact absurd (nI_pos' (Nat.lt_trans (bn_lt bs p (by decide)) (by decide))) c2
          · refine q _ I3 ?_ z1
            unfold rd_mapL rd_post
            rw [if_pos c, if_neg e1]
            exact ⟨rfl, h2, by dsimp only; decide, p2, f2, f3⟩
theorem c_readMap (l : Launch) (d : Nat) {I : zi_I} (g : g_BR K RJ o br ro N) (gb : g_Block K RJ b) (hd : ro + 1 < br) (hb : br < b) (a : a_Row I ro N bs) (hp : I br 1 = nI p) (hp2 : p ≤ 8 * bs.length) :
    zi_C l (zx_rm (d + 2) 0 0) M_BlockReader_readMap [.ref o, .ref b] K RJ I (fun r I2 => rd_post (rd_maps bs p) (8 * bs.length) br r I2 (fun u => aL I2 b 5 (b + 3) (kf u 256)) ∧ zg b [5] [b + 3, br] I I2) := by
  have z0 : zg b [5] [b + 3, br] I (zx_u2 I b 5 0) := zg_fld (by simp)
  have zb : zf [b] I (zx_u2 I b 5 0) := zf_u2 (by simp)
  have a2 : a_Row (zx_u2 I b 5 0) ro N bs := a.keep zb (by simp; omega) (by simp; omega)
  refine zi_of (by decide) (fun α => Nat.le_of_ble_eq_true rfl) (r_BlockReader_readMap_0 l (d + 1) o b gb.k g.k g.bR g.b0 g.b.1 (zi_mono (c_tn (k := 16) l d g.b a2 (by rw [zf_at zb (by simp; omega)]; exact hp) hp2 (by decide) (by decide)) ?_))
  rintro r I2 ⟨⟨v, rfl, hv⟩, h2, z⟩
  have z1 : zg b [5] [b + 3, br] I I2 := zg_trans z0 ⟨fun j _ => zf_at z.2 (by simp; omega) j, zf_mono z.2 (by simp)⟩
  refine ⟨v, rfl, fun c => ?_, fun c => ?_⟩
  · rcases hv with ⟨e1, rfl, e3⟩ | ⟨_, rfl, _⟩
    · refine t_rm23 (bs := bs) (used := bt_num bs p 16) l d g gb hd hb (bt_num_lt bs p 16) 16 0 (p + 16) p (fun _ => false) I2 (by omega) (a2.keep z.2 (by simp; omega) (by simp; omega)) e3 e1 h2 ⟨?_, fun i hi => absurd hi (Nat.not_lt_zero _)⟩ (fun _ _ => rfl) (fun r I3 y1 y2 => ⟨?_, zg_trans z1 y2⟩)
      · rw [zf_at z.2 (by simp; omega), zx_u2_s]
        rfl
      · unfold rd_maps
        rw [if_pos e1]
        exact y1
    · exact absurd c m2_neg
  · rcases hv with ⟨e1, rfl, e3⟩ | ⟨e1, rfl, p2, f2, f3⟩
    · exact absurd (nI_pos' (Nat.lt_trans (bn_lt bs p (by decide)) (by decide))) c
    · refine ⟨?_, z1⟩
      unfold rd_maps rd_post
      rw [if_neg e1]
      exact ⟨rfl, h2, by dsimp only; decide, p2, f2, f3⟩
/-- both counts -/
def rd_TG (bs : List Nat) (p : Nat) : rd_R (Nat × Nat) := match rd_T bs p with
  | .inl e => .inl e
  | .inr (t, q) => match rd_G bs q with
    | .inl e => .inl e
    | .inr (g, q2) => .inr ((t, g), q2)
theorem c_readCounts (l : Launch) (d : Nat) {I : zi_I} (g : g_BR K RJ o br ro N) (gb : g_Block K RJ b) (hd : ro + 1 < br) (hb : br < b) (a : a_Row I ro N bs) (hp : I br 1 = nI p) (hp2 : p ≤ 8 * bs.length) :
    zi_C l (zx_rm (d + 2) 0 0) M_BlockReader_readCounts [.ref o, .ref b] K RJ I (fun r I2 => rd_post (rd_TG bs p) (8 * bs.length) br r I2 (fun v => I2 b 9 = nI v.1 ∧ I2 b 11 = nI v.2) ∧ zg b [9, 11] [br] I I2) := by
  have h8 := bits_ok g.b a
  refine zi_of (by decide) (fun α => Nat.le_of_ble_eq_true rfl) (r_BlockReader_readCounts_0 l (d + 1) o b g.k g.bR g.b0 g.b.1 gb.k (zi_mono (c_tn (k := 3) l d g.b a hp hp2 (by decide) (by decide)) ?_))
  rintro r I2 ⟨⟨v, rfl, hv⟩, h2, z⟩
  have z1 : ∀ v, zg b [9, 11] [br] I (zx_u2 I2 b 9 v) := fun v => zg_trans ⟨fun j _ => zf_at z.2 (by simp; omega) j, zf_mono z.2 (by simp)⟩ (zg_fld (by simp))
  have hb3 := bn_lt bs p (k := 3) (by decide)
  refine ⟨v, rfl, fun c => ?_, fun c => ?_⟩
  · rcases hv with ⟨e1, rfl, e3⟩ | ⟨_, rfl, _⟩
    · have bad : (bt_num bs p 3 < 1 ∨ 4 < bt_num bs p 3) → rd_post (rd_TG bs p) (8 * bs.length) br (some (.int (-6))) (zx_u2 I2 b 9 (nI (bt_num bs p 3))) (fun v => (zx_u2 I2 b 9 (nI (bt_num bs p 3))) b 9 = nI v.1 ∧ (zx_u2 I2 b 9 (nI (bt_num bs p 3))) b 11 = nI v.2) := fun h => by
        unfold rd_TG rd_T rd_post
        rw [if_pos e1, if_pos h]
        exact ⟨rfl, by rw [zx_u2_ne (by omega)]; exact h2, by dsimp only; decide, p + 3, by omega, by rw [zx_u2_ne (by omega)]; exact e3⟩
      refine ⟨fun c2 => ?_, fun c2 => ⟨fun c3 => ?_, fun c3 => ?_⟩⟩
      · rw [show (1 : Int32) = nI 1 from rfl, nI_ltI (by omega) (by omega)] at c2
        exact ⟨bad (Or.inl c2), z1 _⟩
      · rw [show (1 : Int32) = nI 1 from rfl, nI_ltI (by omega) (by omega)] at c2
        rw [show (4 : Int32) = nI 4 from rfl, nI_leI (by omega) (by omega)] at c3
        have a2 : a_Row (zx_u2 I2 b 9 (nI (bt_num bs p 3))) ro N bs := (a.keep z.2 (by simp; omega) (by simp; omega)).keep (zf_u2 (S := [b]) (by simp)) (by simp; omega) (by simp; omega)
        refine zi_mono (c_tn (k := 6) (p := p + 3) l d g.b a2 (by rw [zx_u2_ne (by omega)]; exact e3) e1 (by decide) (by decide)) ?_
        rintro r I3 ⟨⟨w, rfl, hw⟩, h3, z3⟩
        have h39 : I3 b 9 = nI (bt_num bs p 3) := by rw [zf_at z3.2 (by simp; omega), zx_u2_s]
        have hb6 := bn_lt bs (p + 3) (k := 6) (by decide)
        have z4 : ∀ v, zg b [9, 11] [br] I (zx_u2 I3 b 11 v) := fun v => zg_trans (zg_trans (z1 _) ⟨fun j _ => zf_at z3.2 (by simp; omega) j, zf_mono z3.2 (by simp)⟩) (zg_fld (by simp))
        have eT : rd_T bs p = .inr (bt_num bs p 3, p + 3) := by
          unfold rd_T
          rw [if_pos e1, if_neg (by omega)]
        refine ⟨w, rfl, fun c4 => ?_, fun c4 => ?_⟩
        · rcases hw with ⟨f1, rfl, f3⟩ | ⟨_, rfl, _⟩
          · refine ⟨fun c5 => ⟨?_, z4 _⟩, fun c5 => ⟨?_, z4 _⟩⟩
            · rw [show (0 : Int32) = nI 0 from rfl, nI_eq (by omega) (by omega)] at c5
              have eG : rd_G bs (p + 3) = .inr (bt_num bs (p + 3) 6, p + 3 + 6) := by
                unfold rd_G
                rw [if_pos f1, if_neg c5]
              rw [show rd_TG bs p = .inr ((bt_num bs p 3, bt_num bs (p + 3) 6), p + 3 + 6) by simp only [rd_TG, eT, eG]]
              exact ⟨rfl, by rw [zx_u2_ne (by omega)]; exact f3, f1, by rw [zx_u2_k (by omega)]; exact h39, zx_u2_s⟩
            · rw [show (0 : Int32) = nI 0 from rfl, nI_eq (by omega) (by omega)] at c5
              have eG : rd_G bs (p + 3) = .inl (-7, p + 3) := by
                unfold rd_G
                rw [if_pos f1, if_pos c5]
              rw [show rd_TG bs p = .inl (-7, p + 3) by simp only [rd_TG, eT, eG]]
              exact ⟨rfl, by rw [zx_u2_ne (by omega)]; exact h3, by dsimp only; decide, p + 3 + 6, by omega, by rw [zx_u2_ne (by omega)]; exact f3⟩
          · exact absurd c4 m2_neg
        · rcases hw with ⟨f1, rfl, f3⟩ | ⟨f1, rfl, p2, f2, f3⟩
          · exact absurd (nI_pos' (by omega)) c4
          · refine ⟨?_, z4 _⟩
            have eG : rd_G bs (p + 3) = .inl (-2, p + 3) := by
              unfold rd_G
              rw [if_neg f1]
            rw [show rd_TG bs p = .inl (-2, p + 3) by simp only [rd_TG, eT, eG]]
            exact ⟨rfl, by rw [zx_u2_ne (by omega)]; exact h3, by dsimp only; decide, p2, f2, by rw [zx_u2_ne (by omega)]; exact f3⟩
      · rw [show (4 : Int32) = nI 4 from rfl, nI_leI (by omega) (by omega)] at c3
        exact ⟨bad (Or.inr (by omega)), z1 _⟩
    · exact absurd c m2_neg
  · rcases hv with ⟨e1, rfl, e3⟩ | ⟨e1, rfl, p2, f2, f3⟩
    · exact absurd (nI_pos' (by omega)) c
    · refine ⟨?_, z1 _⟩
      unfold rd_TG rd_T rd_post
      rw [if_neg e1]
      exact ⟨rfl, by rw [zx_u2_ne (by omega)]; exact h2, by dsimp only; decide, p2, f2, by rw [zx_u2_ne (by omega)]; exact f3⟩
end CR
