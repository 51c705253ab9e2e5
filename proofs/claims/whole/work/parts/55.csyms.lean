/-! The class finds symbols. -/
theorem aL_add {I : zi_I} {c f q v : Nat} {out : List Nat} (a : aL I c f q out) (hne : c ≠ q) : aL (zx_u2 (zx_u2 I q out.length (nI v)) c f (nI (out.length + 1))) c f q (out ++ [v]) := by
  refine ⟨by rw [zx_u2_s, List.length_append]; rfl, fun i hi => ?_⟩
  rw [List.length_append, List.length_singleton] at hi
  rw [zx_u2_ne (fun z => hne z.1.symm)]
  by_cases e : i = out.length
  · rw [e, zx_u2_s]
    simp
  · rw [zx_u2_k e, a.2 i (by omega)]
    simp only [List.getD_eq_getElem?_getD]
    rw [List.getElem?_append_left (by omega)]
section CY
variable {K : zx_Kt} {RJ : zx_RJ} {o b n : Nat} {c : Nat → Nat}
theorem aL.keepg {I I2 : zi_I} {m f q : Nat} {xs F S : List Nat} (a : aL I m f q xs) (h : zg m F S I I2) (h1 : f ∉ F) (h2 : q ≠ m) (h3 : q ∉ S) : aL I2 m f q xs := ⟨by rw [h.1 f h1]; exact a.1, fun i hi => by rw [zg_cell h h2 h3]; exact a.2 i hi⟩
theorem c_addSymbol (l : Launch) (d : Nat) {I : zi_I} {v : Nat} {out : List Nat} (gb : g_Block K RJ b) (a : aL I b 7 (b + 4) out) (hl : out.length < 65) :
    zi_C l (zx_rm d 0 0) M_Block_addSymbol [.ref b, .int (nI v)] K RJ I (fun r I2 => r = none ∧ aL I2 b 7 (b + 4) (out ++ [v]) ∧ zg b [7] [b + 4] I I2) := by
  refine zi_of (by decide) (fun α => Nat.le_of_ble_eq_true rfl) (r_Block_addSymbol_0 l d b _ gb.k gb.sy.1 (by omega) gb.sy.2 ⟨fun c => ?_, fun _ => ⟨out.length, a.1, by omega, rfl, ?_, zg_trans (zg_arr (by simp) (by omega)) (zg_fld (by simp))⟩⟩)
  · rw [a.1, show (65 : Int32) = nI 65 from rfl, nI_leI (by omega) (by omega)] at c
    omega
  · rw [a.1, nI_1]
    exact aL_add a (by omega)
theorem c_addKind (l : Launch) (d : Nat) {I : zi_I} {v : Nat} {out : List Nat} (gb : g_Block K RJ b) (a : aL I b 5 (b + 3) out) (hl : out.length < 256) :
    zi_C l (zx_rm d 0 0) M_Block_addKind [.ref b, .int (nI v)] K RJ I (fun r I2 => r = none ∧ aL I2 b 5 (b + 3) (out ++ [v]) ∧ zg b [5] [b + 3] I I2) := by
  refine zi_of (by decide) (fun α => Nat.le_of_ble_eq_true rfl) (r_Block_addKind_0 l d b _ gb.k gb.kl.1 (by omega) gb.kl.2 ⟨fun c => ?_, fun _ => ⟨out.length, a.1, by omega, rfl, ?_, zg_trans (zg_arr (by simp) (by omega)) (zg_fld (by simp))⟩⟩)
  · rw [a.1, show (256 : Int32) = nI 256 from rfl, nI_leI (by omega) (by omega)] at c
    omega
  · rw [a.1, nI_1]
    exact aL_add a (by omega)
theorem t_run2 (l : Launch) (d : Nat) {x1 : Int32} {Q : zi_Q} (gb : g_Block K RJ b) :
    ∀ (r : Nat) (I : zi_I) (out : List Nat), r < 2 ^ 20 → aL I b 7 (b + 4) out → out.length + r ≤ 65 →
      (∀ I2, aL I2 b 7 (b + 4) (out ++ dg r) → zg b [7] [b + 4] I I2 → Q none I2) →
      zi_X l (zx_rm (d + 1) 0 0) M_BlockMaker_addRun K RJ Q 2 [(0, .ref b), (1, .int x1), (2, .int (nI r))] [] I := by
  intro r
  induction r using Nat.strongRecOn with
  | ind r ih =>
    intro I out hr a hl q
    by_cases h : r = 0
    · subst h
      refine r_BlockMaker_addRun_2 l d b _ _ gb.k ⟨fun _ => q I (by rw [dg_0, List.append_nil]; exact a) zg_refl, fun c => absurd (by decide) c⟩
    · have em : nI r - nI r / 2 * 2 = nI (r % 2) := pk_rem (d := 2) (by omega) (by omega) (by omega)
      have ed : (nI r - 1) / 2 = nI ((r - 1) / 2) := by
        rw [show (1 : Int32) = nI 1 from rfl, pk_sub (by omega)]
        exact pk_div (d := 2) (by omega) (by omega) (by omega)
      have step : ∀ v, (if r % 2 = 1 then 0 else 1) = v → zi_C l (zx_rm d 0 0) M_Block_addSymbol [.ref b, .int (nI v)] K RJ I (fun r' I2 => r' = none ∧ zi_X l (zx_rm (d + 1) 0 0) M_BlockMaker_addRun K RJ Q 2 [(0, .ref b), (1, .int x1), (2, .int ((nI r - 1) / 2))] [] I2) := by
        intro v hv
        refine zi_mono (c_addSymbol l d gb a (by omega)) ?_
        rintro r' I2 ⟨rfl, v1, v2⟩
        rw [ed]
        refine ⟨rfl, ih ((r - 1) / 2) (by omega) I2 (out ++ [v]) (by omega) v1 (by rw [List.length_append, List.length_singleton]; omega) (fun I3 y1 y2 => q I3 ?_ (zg_trans v2 y2))⟩
        rw [dg_s h, hv]
        rw [List.append_assoc] at y1
        exact y1
      refine r_BlockMaker_addRun_2 l d b _ _ gb.k ⟨fun c => ?_, fun _ => ⟨fun c => ?_, fun c => ?_⟩⟩
      · rw [show (0 : Int32) = nI 0 from rfl, nI_leI (by omega) (by omega)] at c
        omega
      · rw [em, show (1 : Int32) = nI 1 from rfl, nI_eq (by omega) (by omega)] at c
        exact step 1 (if_neg c)
      · rw [em, show (1 : Int32) = nI 1 from rfl, nI_eq (by omega) (by omega)] at c
        exact step 0 (if_pos c)
theorem c_addRun (l : Launch) (d : Nat) {I : zi_I} {r : Nat} {out : List Nat} (gb : g_Block K RJ b) (a : aL I b 7 (b + 4) out) (hr : out.length + r ≤ 65) :
    zi_C l (zx_rm (d + 1) 0 0) M_BlockMaker_addRun [.ref b, .int (nI r)] K RJ I (fun r' I2 => r' = none ∧ aL I2 b 7 (b + 4) (out ++ dg r) ∧ zg b [7] [b + 4] I I2) :=
  zi_of (by decide) (fun α => Nat.le_of_ble_eq_true rfl) (r_BlockMaker_addRun_0 l d b _ (t_run2 l d gb r I out (by omega) a hr (fun I2 y1 y2 => ⟨rfl, y1, y2⟩)))
theorem t_lk43 (l : Launch) (d : Nat) {Q : zi_Q} {u : Nat → Bool} (g : g_Maker K RJ o) (gb : g_Block K RJ b) (hd : o + 11 < b) :
    ∀ (j v : Nat) (I : zi_I), v + j = 256 → (∀ i, i < 256 → I (o + 2) i = if u i = true then 1 else 0) → aL I b 5 (b + 3) (kf u v) →
      (∀ I2, aL I2 b 5 (b + 3) (kf u 256) → zg b [5] [b + 3] I I2 → Q none I2) →
      zi_X l (zx_rm (d + 1) 0 0) M_BlockMaker_listKinds K RJ Q 43 [(0, .ref o), (1, .ref b), (2, .int (nI v))] [] I := by
  intro j
  induction j with
  | zero =>
    intro v I hv hu a q
    obtain rfl : v = 256 := by omega
    refine r_BlockMaker_listKinds_43 l d o b _ g.k g.pR (by omega) g.pK gb.k ⟨fun _ => q I a zg_refl, fun c => absurd (by decide) c⟩
  | succ j ih =>
    intro v I hv hu a q
    have hl := kf_le u v
    refine r_BlockMaker_listKinds_43 l d o b _ g.k g.pR (by omega) g.pK gb.k ⟨fun c => ?_, fun _ => ⟨v, rfl, by omega, fun c => ?_, fun c => ?_⟩⟩
    · rw [show (256 : Int32) = nI 256 from rfl, nI_leI (by omega) (by omega)] at c
      omega
    · rw [hu v (by omega)] at c
      rw [nI_1]
      refine ih (v + 1) I (by omega) hu ?_ q
      rw [kf_s, if_neg (fun z => c (by rw [if_pos z]))]
      exact a
    · have hv1 : u v = true := by
        rw [hu v (by omega)] at c
        by_cases h : u v = true
        · exact h
        · rw [if_neg h] at c
          exact absurd c (by decide)
      refine zi_mono (c_addKind l d gb a (by omega)) ?_
      rintro r I2 ⟨rfl, v1, v2⟩
      rw [nI_1]
      refine ⟨rfl, ih (v + 1) I2 (by omega) (fun i hi => by rw [zg_cell v2 (by omega) (by simp; omega)]; exact hu i hi) ?_ (fun I3 y1 y2 => q I3 y1 (zg_trans v2 y2))⟩
      rw [kf_s, if_pos hv1]
      exact v1
theorem t_lk10 (l : Launch) (d : Nat) {Q : zi_Q} {co : List Nat} (g : g_Maker K RJ o) (gb : g_Block K RJ b) (hd : o + 11 < b) (hn : co.length ≤ 64) (hc : ∀ v ∈ co, v < 256) :
    ∀ (j i : Nat) (I : zi_I), i + j = co.length → I b 2 = nI co.length → aA I (b + 2) co → (∀ v, v < 256 → I (o + 2) v = if uu co i v = true then 1 else 0) →
      (∀ I2, aL I2 b 5 (b + 3) (kf (uu co co.length) 256) → zg b [5] [o + 2, b + 3] I I2 → Q none I2) →
      zi_X l (zx_rm (d + 1) 0 0) M_BlockMaker_listKinds K RJ Q 10 [(0, .ref o), (1, .ref b), (2, .int (nI i))] [] I := by
  intro j
  induction j with
  | zero =>
    intro i I hi h2 ac hu q
    obtain rfl : i = co.length := by omega
    refine r_BlockMaker_listKinds_10 l d o b _ gb.k g.k g.pR (by omega) gb.co.1 (by omega) gb.co.2 g.pK ⟨fun _ => ?_, fun c => ?_⟩
    · have z : zg b [5] [o + 2, b + 3] I (zx_u2 I b 5 0) := zg_fld (by simp)
      refine t_lk43 (u := uu co co.length) l d g gb hd 256 0 _ (by omega) (fun i hi => by rw [zx_u2_ne (by omega)]; exact hu i hi) ⟨?_, fun i hi => absurd hi (Nat.not_lt_zero _)⟩ (fun I2 y1 y2 => q I2 y1 (zg_trans z (zg_mono y2 (by simp) (by simp))))
      rw [zx_u2_s]
      rfl
    · rw [h2, nI_leI (by omega) (by omega)] at c
      omega
  | succ j ih =>
    intro i I hi h2 ac hu q
    have hv := hc _ (getD_mem (show i < co.length by omega))
    refine r_BlockMaker_listKinds_10 l d o b _ gb.k g.k g.pR (by omega) gb.co.1 (by omega) gb.co.2 g.pK ⟨fun c => ?_, fun _ => ⟨i, rfl, by omega, co.getD i 0, ac i (by omega), by omega, ?_⟩⟩
    · rw [h2, nI_leI (by omega) (by omega)] at c
      omega
    · rw [nI_1]
      have z : zg b [5] [o + 2, b + 3] I (zx_u2 I (o + 2) (co.getD i 0) 1) := zg_arr (by simp) (by omega)
      refine ih (i + 1) _ (by omega) (by rw [z.1 2 (by simp)]; exact h2) (fun p hp => by rw [zg_cell z (by omega) (by simp; omega)]; exact ac p hp) (fun v hv2 => ?_) (fun I3 y1 y2 => q I3 y1 (zg_trans z y2))
      show _ = if (uu co i v || decide (v = co.getD i 0)) = true then (1 : Int32) else 0
      by_cases e : v = co.getD i 0
      · rw [e, zx_u2_s]
        simp
      · rw [zx_u2_k e, hu v hv2, decide_eq_false e, Bool.or_false]
theorem c_listKinds (l : Launch) (d : Nat) {I : zi_I} {co : List Nat} (g : g_Maker K RJ o) (gb : g_Block K RJ b) (hd : o + 11 < b) (hn : co.length ≤ 64) (hc : ∀ v ∈ co, v < 256) (h2 : I b 2 = nI co.length) (ac : aA I (b + 2) co) :
    zi_C l (zx_rm (d + 1) 0 0) M_BlockMaker_listKinds [.ref o, .ref b] K RJ I (fun r I2 => r = none ∧ aL I2 b 5 (b + 3) (kf (uu co co.length) 256) ∧ zg b [5] [o + 2, b + 3] I I2) := by
  refine zi_of (by decide) (fun α => Nat.le_of_ble_eq_true rfl) (r_BlockMaker_listKinds_0 l d o b g.k g.pR (by omega) (zi_mono (c_fill l d g.pK (by decide)) ?_))
  rintro r I2 ⟨rfl, rfl⟩
  have z : zf [o + 2] I (fun c i => if c = o + 2 ∧ i < 256 then 0 else I c i) := fun c hc => by
    funext i
    show (if c = o + 2 ∧ i < 256 then (0 : Int32) else I c i) = I c i
    rw [if_neg (fun z => hc (by simp [z.1]))]
  have zz : zg b [5] [o + 2, b + 3] I (fun c i => if c = o + 2 ∧ i < 256 then 0 else I c i) := ⟨fun j _ => zf_at z (by simp; omega) j, zf_mono z (by simp)⟩
  refine ⟨rfl, t_lk10 (co := co) l d g gb hd hn hc co.length 0 _ (by omega) (by rw [zf_at z (by simp; omega)]; exact h2) (fun p hp => by rw [zf_at z (by simp; omega)]; exact ac p hp) (fun v hv => ?_) (fun I3 y1 y2 => ⟨rfl, y1, zg_trans zz y2⟩)⟩
  show (if o + 2 = o + 2 ∧ v < 256 then (0 : Int32) else I (o + 2) v) = if false = true then 1 else 0
  rw [if_pos ⟨rfl, hv⟩, if_neg (by decide)]
theorem t_fs24 (l : Launch) (d : Nat) {Q : zi_Q} {kc : Nat} (g : g_Maker K RJ o) (gb : g_Block K RJ b) (hd : o + 11 < b) (hn : n ≤ 64) (hk : kc ≤ 256) (hcb : ∀ i, i < n → c i < 256) :
    ∀ (j i run : Nat) (xs out : List Nat) (I : zi_I), i + j = n → I b 2 = nI n → (∀ p, p < n → I (b + 2) p = nI (c p)) → I b 5 = nI kc → a_Row I (o + 3) 256 xs → (∀ k, i ≤ k → k < n → c k ∈ xs) → aL I b 7 (b + 4) out → out.length + run + j + 1 ≤ 65 →
      (∀ I2, aL I2 b 7 (b + 4) (sy_go c j i xs run out ++ [kc + 1]) → zg b [7] [o + 4, b + 4] I I2 → Q none I2) →
      zi_X l (zx_rm (d + 3) 0 0) M_BlockMaker_findSymbols K RJ Q 24 [(0, .ref o), (1, .ref b), (2, .int (nI run)), (3, .int (nI i))] [] I := by
  intro j
  induction j with
  | zero =>
    intro i run xs out I hi h2 hc h5 ax hx a hl q
    refine r_BlockMaker_findSymbols_24 l (d + 2) o b _ _ gb.k g.k g.lR (by omega) gb.co.1 (by omega) gb.co.2 g.l.1 ⟨fun _ => zi_mono (c_addRun (r := run) l (d + 1) gb a (by omega)) ?_, fun c => ?_⟩
    · rintro r I2 ⟨rfl, v1, v2⟩
      refine ⟨rfl, zi_mono (c_endSymbol (k := kc) l (d + 2) gb (by rw [v2.1 5 (by simp)]; exact h5)) ?_⟩
      rintro r I3 ⟨rfl, rfl⟩
      have hdl := dg_len run
      refine ⟨_, rfl, zi_mono (c_addSymbol l (d + 2) gb v1 (by rw [List.length_append]; omega)) ?_⟩
      rintro r I4 ⟨rfl, w1, w2⟩
      exact ⟨rfl, q I4 w1 (zg_trans (zg_mono v2 (by simp) (by simp)) (zg_mono w2 (by simp) (by simp)))⟩
    · rw [h2, nI_leI (by omega) (by omega)] at c
      omega
  | succ j ih =>
    intro i run xs out I hi h2 hc h5 ax hx a hl q
    have h0 := hx i (Nat.le_refl _) (by omega)
    have hix := ix_lt h0
    have hxl := ax.1
    have hcb1 := hcb i (by omega)
    refine r_BlockMaker_findSymbols_24 l (d + 2) o b _ _ gb.k g.k g.lR (by omega) gb.co.1 (by omega) gb.co.2 g.l.1 ⟨fun c => ?_, fun _ => ⟨i, rfl, by omega, ?_⟩⟩
    · rw [h2, nI_leI (by omega) (by omega)] at c
      omega
    · rw [hc i (by omega)]
      refine zi_mono (c_moveValue (k := ix (c i) xs) l d g.l ax hix (ix_at h0) (fun j hj => ix_no hj) hcb1) ?_
      rintro r I2 ⟨rfl, v1, v2⟩
      have zz : zg b [7] [o + 4, b + 4] I I2 := ⟨fun j _ => zf_at v2 (by simp; omega) j, zf_mono v2 (by simp)⟩
      have hx2 : ∀ k, i + 1 ≤ k → k < n → c k ∈ mv_to xs (ix (c i) xs) := fun k h1 h2 => mv_mem2 hix (hx k (by omega) h2)
      have a2 : aL I2 b 7 (b + 4) out := a.keep v2 (by simp; omega) (by simp; omega)
      refine ⟨_, rfl, fun e => ?_, fun e => ?_⟩
      · rw [show (0 : Int32) = nI 0 from rfl, nI_eq (by omega) (by omega)] at e
        refine zi_mono (c_addRun (r := run) l (d + 1) gb a2 (by omega)) ?_
        rintro r I3 ⟨rfl, w1, w2⟩
        have hdl := dg_len run
        rw [nI_1]
        refine ⟨rfl, zi_mono (c_addSymbol l (d + 2) gb w1 (by rw [List.length_append]; omega)) ?_⟩
        rintro r I4 ⟨rfl, u1, u2⟩
        rw [nI_1]
        have z4 : zg b [7] [o + 4, b + 4] I I4 := zg_trans (zg_trans zz (zg_mono w2 (by simp) (by simp))) (zg_mono u2 (by simp) (by simp))
        have z5 : zg b [7] [b + 4] I2 I4 := zg_trans w2 u2
        refine ⟨rfl, ih (i + 1) 0 (mv_to xs (ix (c i) xs)) _ I4 (by omega) (by rw [z4.1 2 (by simp)]; exact h2) (fun p hp => by rw [zg_cell z4 (by omega) (by simp; omega)]; exact hc p hp) (by rw [z4.1 5 (by simp)]; exact h5) (v1.keep z5.2 (by simp; omega) (by simp; omega)) hx2 u1 (by rw [List.length_append, List.length_append, List.length_singleton]; omega) (fun I5 y1 y2 => q I5 ?_ (zg_trans z4 y2))⟩
        rw [sy_go_s, if_neg e]
        exact y1
      · rw [show (0 : Int32) = nI 0 from rfl, nI_eq (by omega) (by omega)] at e
        rw [nI_1, nI_1]
        refine ih (i + 1) (run + 1) (mv_to xs (ix (c i) xs)) out I2 (by omega) (by rw [zz.1 2 (by simp)]; exact h2) (fun p hp => by rw [zg_cell zz (by omega) (by simp; omega)]; exact hc p hp) (by rw [zz.1 5 (by simp)]; exact h5) v1 hx2 a2 (by omega) (fun I5 y1 y2 => q I5 ?_ (zg_trans zz y2))
        rw [sy_go_s, if_pos e]
        exact y1
theorem c_findSymbols (l : Launch) (d : Nat) {I : zi_I} {ks : List Nat} (g : g_Maker K RJ o) (gb : g_Block K RJ b) (hd : o + 11 < b) (hn : n ≤ 64) (hk : ks.length ≤ 256) (hkb : ∀ v ∈ ks, v < 256) (hcb : ∀ i, i < n → c i < 256) (hm : ∀ i, i < n → c i ∈ ks) (h2 : I b 2 = nI n) (hc : ∀ p, p < n → I (b + 2) p = nI (c p)) (ak : aL I b 5 (b + 3) ks) :
    zi_C l (zx_rm (d + 3) 0 0) M_BlockMaker_findSymbols [.ref o, .ref b] K RJ I (fun r I2 => r = none ∧ aL I2 b 7 (b + 4) (sy_all c n ks) ∧ zg b [7] [o + 3, o + 4, b + 4] I I2) := by
  refine zi_of (by decide) (fun α => Nat.le_of_ble_eq_true rfl) (r_BlockMaker_findSymbols_0 l (d + 2) o b g.k g.lR (by omega) gb.k gb.kl.1 (by omega) g.l.1 ?_)
  rw [ak.1]
  refine zi_mono (c_ML_setTo (xs := ks) (m := 0) l (d + 1) g.l gb.kl.2 (by omega) hk ak.2 hkb) ?_
  rintro r I2 ⟨rfl, v1, v2⟩
  have z : zg b [7] [o + 3, o + 4, b + 4] I (zx_u2 I2 b 7 0) := zg_trans ⟨fun j _ => zf_at v2 (by simp; omega) j, zf_mono v2 (by simp)⟩ (zg_fld (by simp))
  have z2 : zf [b] I2 (zx_u2 I2 b 7 0) := zf_u2 (by simp)
  refine ⟨rfl, t_fs24 (c := c) (n := n) (kc := ks.length) l d g gb hd hn hk hcb n 0 0 ks [] _ (by omega) (by rw [z.1 2 (by simp)]; exact h2) (fun p hp => by rw [zg_cell z (by omega) (by simp; omega)]; exact hc p hp) (by rw [z.1 5 (by simp)]; exact ak.1) (v1.keep z2 (by simp; omega) (by simp; omega)) (fun k _ h => hm k h) ⟨by rw [zx_u2_s]; rfl, fun i hi => absurd hi (Nat.not_lt_zero _)⟩ (by simp only [List.length_nil]; omega) (fun I3 y1 y2 => ⟨rfl, y1, zg_trans z (zg_mono y2 (by simp) (by simp))⟩)⟩
end CY
