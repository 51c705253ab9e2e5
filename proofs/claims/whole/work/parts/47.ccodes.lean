/-! The class's codes. -/
def g_Codes (K : zx_Kt) (RJ : zx_RJ) (o N : Nat) : Prop := (K.2 o).1 = 13 ∧ (RJ.1 o 0 = o + 1 ∧ K.2 (o + 1) = (0, 13)) ∧ (RJ.1 o 1 = o + 2 ∧ K.2 (o + 2) = (0, 13)) ∧ (RJ.1 o 2 = o + 3 ∧ K.2 (o + 3) = (0, 13)) ∧ (RJ.1 o 3 = o + 4 ∧ K.2 (o + 4) = (0, N)) ∧ (RJ.1 o 4 = o + 5 ∧ K.2 (o + 5) = (0, N)) ∧ N < 2 ^ 20
def a_Codes (I : zi_I) (o n : Nat) (f : Nat → Nat) : Prop := (∀ s, s < n → I (o + 5) s = nI (cd_c f n s)) ∧ (∀ len, 1 ≤ len → len ≤ 12 → I (o + 1) len = nI (cd_F f n len) ∧ I (o + 2) len = nI (cd_n f len n) ∧ I (o + 3) len = nI (cd_s f n len)) ∧ ∀ s, s < n → I (o + 4) (cd_p f n s) = nI s
theorem a_Codes.keep {I I2 : zi_I} {o n : Nat} {f : Nat → Nat} {S : List Nat} (a : a_Codes I o n f) (h : zf S I I2) (hS : ∀ q ∈ S, q < o + 1 ∨ o + 5 < q) : a_Codes I2 o n f := by
  obtain ⟨a1, a2, a3⟩ := a
  have hn : ∀ q, o + 1 ≤ q → q ≤ o + 5 → I2 q = I q := fun q h1 h2 => h q (fun z => by have := hS q z; omega)
  refine ⟨fun s hs => ?_, fun len h1 h2 => ⟨?_, ?_, ?_⟩, fun s hs => ?_⟩
  · rw [hn _ (by omega) (by omega)]; exact a1 s hs
  · rw [hn _ (by omega) (by omega)]; exact (a2 len h1 h2).1
  · rw [hn _ (by omega) (by omega)]; exact (a2 len h1 h2).2.1
  · rw [hn _ (by omega) (by omega)]; exact (a2 len h1 h2).2.2
  · rw [hn _ (by omega) (by omega)]; exact a3 s hs
theorem nI_mask {a len : Nat} : nI a &&& nI (2 ^ len - 1) = nI (a % 2 ^ len) := by rw [zb_and, Nat.and_two_pow_sub_one_eq_mod]
theorem nI_back {a b : Nat} (hb : b ≤ 2 ^ 32) : nI a - nI b = nI (a + 2 ^ 32 - b) := by
  by_cases h : b = 2 ^ 32
  · subst h
    apply zb_inj
    show BitVec.ofNat 32 a - BitVec.ofNat 32 (2 ^ 32) = BitVec.ofNat 32 (a + 2 ^ 32 - 2 ^ 32)
    rw [Nat.add_sub_cancel]
    simp
  · apply zb_inj
    show BitVec.ofNat 32 a - BitVec.ofNat 32 b = BitVec.ofNat 32 (a + 2 ^ 32 - b)
    apply BitVec.eq_of_toNat_eq
    rw [BitVec.toNat_sub, BitVec.toNat_ofNat, BitVec.toNat_ofNat, BitVec.toNat_ofNat, Nat.mod_eq_of_lt (show b < 2 ^ 32 by omega)]
    omega
theorem nI_behind {c F len : Nat} (hl : len ≤ 12) (hF : F < 2 ^ len) : (nI c - nI F) &&& nI (2 ^ len - 1) = nI ((c + 2 ^ len - F) % 2 ^ len) := by
  have hp := two_pow_12 hl
  rw [nI_back (by omega), nI_mask]
  have e : (2 : Nat) ^ 32 = 2 ^ len * 2 ^ (32 - len) := by rw [← Nat.pow_add, show len + (32 - len) = 32 by omega]
  have h1 := Nat.two_pow_pos (32 - len)
  obtain ⟨w, hw⟩ : ∃ w, 2 ^ (32 - len) = w + 1 := ⟨2 ^ (32 - len) - 1, by omega⟩
  rw [e, hw, Nat.mul_succ, show c + (2 ^ len * w + 2 ^ len) - F = c + 2 ^ len - F + 2 ^ len * w by omega, Nat.add_mul_mod_self_left]
section CC
variable {K : zx_Kt} {RJ : zx_RJ} {o N p P n : Nat} {f : Nat → Nat}
theorem v_isLength {x : Nat} (h : x < 2 ^ 31) : ((if (1 : Int32) ≤ nI x ∧ nI x ≤ 12 then (1 : Int32) else 0) = 0) ↔ ¬ (1 ≤ x ∧ x ≤ 12) := by
  have e : ((1 : Int32) ≤ nI x ∧ nI x ≤ 12) ↔ (1 ≤ x ∧ x ≤ 12) := by
    have e1 : (nI 1 ≤ nI x) ↔ 1 ≤ x := nI_leI (by omega) h
    have e2 : (nI x ≤ nI 12) ↔ x ≤ 12 := nI_leI h (by omega)
    exact ⟨fun z => ⟨e1.mp z.1, e2.mp z.2⟩, fun z => ⟨e1.mpr z.1, e2.mpr z.2⟩⟩
  by_cases c : (1 : Int32) ≤ nI x ∧ nI x ≤ 12
  · rw [if_pos c]
    exact ⟨fun z => absurd z (by decide), fun z => absurd (e.mp c) z⟩
  · rw [if_neg c]
    exact ⟨fun _ z => c (e.mpr z), fun _ => rfl⟩
theorem t_cl10 (l : Launch) (d : Nat) {Q : zi_Q} (g : g_Codes K RJ o N) (kp : K.2 p = (0, P)) (hp : p < o ∨ o + 5 < p) (hn : n ≤ P) (hP : P < 2 ^ 20) (hf : ∀ s, s < n → 1 ≤ f s ∧ f s ≤ 12) :
    ∀ (j k : Nat) (I : zi_I), k + j = n → (∀ s, s < n → I p s = nI (f s)) → (∀ len, len ≤ 12 → I (o + 2) len = nI (cd_n f len k)) →
      (∀ I2, (∀ len, len ≤ 12 → I2 (o + 2) len = nI (cd_n f len n)) → zf [o + 2] I I2 → Q none I2) →
      zi_X l (zx_rm (d + 1) 0 0) M_Codes_countLengths K RJ Q 10 [(0, .ref o), (1, .ref p), (2, .int (nI n)), (3, .int (nI k))] [] I := by
  intro j
  induction j with
  | zero =>
    intro k I hk hw hc q
    obtain rfl : k = n := by omega
    refine r_Codes_countLengths_10 l d o p _ _ kp g.1 g.2.2.1.1 (by omega) g.2.2.1.2 ⟨fun _ => q I hc zf_refl, fun c => ?_⟩
    exact absurd (nI_le (Nat.le_refl _) (by omega)) c
  | succ j ih =>
    intro k I hk hw hc q
    have hfk := hf k (by omega)
    refine r_Codes_countLengths_10 l d o p _ _ kp g.1 g.2.2.1.1 (by omega) g.2.2.1.2 ⟨fun c => ?_, fun _ => ⟨k, rfl, by omega, zi_mono (c_isLength l d) ?_⟩⟩
    · rw [nI_leI (by omega) (by omega)] at c
      omega
    · rintro r I2 ⟨rfl, rfl⟩
      rw [hw k (by omega)]
      refine ⟨_, rfl, fun c => ?_, fun c => ⟨k, rfl, by omega, f k, hw k (by omega), by omega, f k, hw k (by omega), by omega, ?_⟩⟩
      · rw [v_isLength (by omega)] at c
        exact absurd hfk c
      · rw [nI_1, hc _ hfk.2, nI_1]
        have z : zf [o + 2] I2 (zx_u2 I2 (o + 2) (f k) (nI (cd_n f (f k) k + 1))) := zf_u2 (by simp)
        refine ih (k + 1) _ (by omega) (fun s hs => by rw [zf_at z (by simp; omega)]; exact hw s hs) (fun len hlen => ?_) (fun I3 y1 y2 => q I3 y1 (zf_trans z y2))
        rw [cd_n_succ]
        by_cases e : len = f k
        · rw [e, zx_u2_s, if_pos rfl]
        · rw [zx_u2_k e, if_neg (Ne.symm e), hc len hlen]
          rfl
theorem c_countLengths (l : Launch) (d : Nat) {I : zi_I} (g : g_Codes K RJ o N) (kp : K.2 p = (0, P)) (hp : p < o ∨ o + 5 < p) (hn : n ≤ P) (hP : P < 2 ^ 20) (hf : ∀ s, s < n → 1 ≤ f s ∧ f s ≤ 12) (hw : ∀ s, s < n → I p s = nI (f s)) :
    zi_C l (zx_rm (d + 1) 0 0) M_Codes_countLengths [.ref o, .ref p, .int (nI n)] K RJ I (fun r I2 => r = none ∧ (∀ len, len ≤ 12 → I2 (o + 2) len = nI (cd_n f len n)) ∧ zf [o + 2] I I2) := by
  refine zi_of (by decide) (fun α => Nat.le_of_ble_eq_true rfl) (r_Codes_countLengths_0 l d o p _ g.1 g.2.2.1.1 (by omega) (zi_mono (c_fill l d g.2.2.1.2 (by decide)) ?_))
  rintro r I2 ⟨rfl, rfl⟩
  have z : zf [o + 2] I (fun c i => if c = o + 2 ∧ i < 13 then 0 else I c i) := fun c hc => by
    funext i
    show (if c = o + 2 ∧ i < 13 then (0 : Int32) else I c i) = I c i
    rw [if_neg (fun z => hc (by simp [z.1]))]
  refine ⟨rfl, t_cl10 (f := f) (N := N) l d g kp hp hn hP hf n 0 _ (by omega) (fun s hs => by rw [zf_at z (by simp; omega)]; exact hw s hs) (fun len hlen => ?_) (fun I3 y1 y2 => ⟨rfl, y1, zf_trans z y2⟩)⟩
  show (if o + 2 = o + 2 ∧ len < 13 then (0 : Int32) else I (o + 2) len) = nI 0
  rw [if_pos ⟨rfl, by omega⟩]
  rfl
theorem t_pl6 (l : Launch) (d : Nat) {Q : zi_Q} (g : g_Codes K RJ o N) (hn : n < 2 ^ 20) :
    ∀ (j len : Nat) (I : zi_I), len + 1 + j = 13 → (∀ x, x ≤ 12 → I (o + 2) x = nI (cd_n f x n)) → (∀ x, 1 ≤ x → x ≤ len → I (o + 1) x = nI (cd_F f n x) ∧ I (o + 3) x = nI (cd_s f n x)) →
      (∀ I2, (∀ x, 1 ≤ x → x ≤ 12 → I2 (o + 1) x = nI (cd_F f n x) ∧ I2 (o + 3) x = nI (cd_s f n x)) → zf [o + 1, o + 3] I I2 → Q none I2) →
      zi_X l (zx_rm (d + 1) 0 0) M_Codes_placeLengths K RJ Q 6 [(0, .ref o), (1, .int (nI (cd_s f n (len + 1)))), (2, .int (nI ((cd_F f n len + cd_n f len n) % 2 ^ len))), (3, .int (nI (len + 1)))] [] I := by
  intro j
  induction j with
  | zero =>
    intro len I hj hm hd q
    obtain rfl : len = 12 := by omega
    refine r_Codes_placeLengths_6 l d o _ _ _ g.1 g.2.1.1 (by omega) g.2.1.2 g.2.2.2.1.1 (by omega) g.2.2.2.1.2 g.2.2.1.1 (by omega) g.2.2.1.2 ⟨fun _ => q I hd zf_refl, fun c => ?_⟩
    exact absurd (show (12 : Int32) < nI 13 by decide) c
  | succ j ih =>
    intro len I hj hm hd q
    have hp := two_pow_12 (show len + 1 ≤ 12 by omega)
    have hx := Nat.mod_lt (cd_F f n len + cd_n f len n) (Nat.two_pow_pos len)
    rw [Nat.pow_succ] at hp
    have hcn := cd_n_le f (len + 1) n
    have e1 : nI ((cd_F f n len + cd_n f len n) % 2 ^ len) <<< ((1 : Int32) &&& 31) = nI (cd_F f n (len + 1)) := by
      have := zb_shl (n := (cd_F f n len + cd_n f len n) % 2 ^ len) (j := 1) (by omega) (by omega)
      rw [cd_F_succ, Nat.mul_comm 2]
      exact this
    refine r_Codes_placeLengths_6 l d o _ _ _ g.1 g.2.1.1 (by omega) g.2.1.2 g.2.2.2.1.1 (by omega) g.2.2.2.1.2 g.2.2.1.1 (by omega) g.2.2.1.2 ⟨fun c => ?_, fun _ => ⟨len + 1, rfl, by omega, len + 1, rfl, by omega, len + 1, rfl, by omega, zi_mono (c_mask l d (by omega)) ?_⟩⟩
    · rw [show (12 : Int32) = nI 12 from rfl, nI_ltI (by omega) (by omega)] at c
      omega
    · rintro r I2 ⟨rfl, rfl⟩
      refine ⟨_, rfl, len + 1, rfl, by omega, ?_⟩
      rw [e1]
      have z : zf [o + 1, o + 3] I (zx_u2 (zx_u2 I (o + 1) (len + 1) (nI (cd_F f n (len + 1)))) (o + 3) (len + 1) (nI (cd_s f n (len + 1)))) := zf_trans (zf_u2 (by simp)) (zf_u2 (by simp))
      rw [zf_at z (by simp) (len + 1), hm _ (by omega), nI_add, nI_add, nI_mask, nI_1]
      have e2 : cd_s f n (len + 1) + cd_n f (len + 1) n = cd_s f n (len + 1 + 1) := by rw [cd_s_succ f n (len + 1), if_neg (by omega)]
      rw [e2]
      refine ih (len + 1) _ (by omega) (fun x hx => by rw [zf_at z (by simp)]; exact hm x hx) (fun x h1 h2 => ?_) (fun I3 y1 y2 => q I3 y1 (zf_trans z y2))
      by_cases e : x = len + 1
      · subst e
        exact ⟨by rw [zx_u2_ne (by omega), zx_u2_s], zx_u2_s⟩
      · obtain ⟨u1, u2⟩ := hd x h1 (by omega)
        exact ⟨by rw [zx_u2_ne (by omega), zx_u2_k e]; exact u1, by rw [zx_u2_k e, zx_u2_ne (by omega)]; exact u2⟩
theorem c_placeLengths (l : Launch) (d : Nat) {I : zi_I} (g : g_Codes K RJ o N) (hn : n < 2 ^ 20) (hm : ∀ x, x ≤ 12 → I (o + 2) x = nI (cd_n f x n)) :
    zi_C l (zx_rm (d + 1) 0 0) M_Codes_placeLengths [.ref o] K RJ I (fun r I2 => r = none ∧ (∀ x, 1 ≤ x → x ≤ 12 → I2 (o + 1) x = nI (cd_F f n x) ∧ I2 (o + 3) x = nI (cd_s f n x)) ∧ zf [o + 1, o + 3] I I2) := by
  refine zi_of (by decide) (fun α => Nat.le_of_ble_eq_true rfl) (r_Codes_placeLengths_0 l d o ?_)
  have := t_pl6 (f := f) (n := n) (Q := fun r I2 => r = none ∧ (∀ x, 1 ≤ x → x ≤ 12 → I2 (o + 1) x = nI (cd_F f n x) ∧ I2 (o + 3) x = nI (cd_s f n x)) ∧ zf [o + 1, o + 3] I I2) l d g hn 12 0 I (by omega) hm (fun x h1 h2 => absurd h1 (by omega)) (fun I2 y1 y2 => ⟨rfl, y1, y2⟩)
  rw [Nat.pow_zero, Nat.mod_one] at this
  exact this
theorem t_st36 (l : Launch) (d : Nat) {Q : zi_Q} {x2 : Int32} (g : g_Codes K RJ o N) (kp : K.2 p = (0, P)) (hp : p < o ∨ o + 5 < p) (hn : n ≤ P) (hnN : n ≤ N) (hP : P < 2 ^ 20) (hf : ∀ s, s < n → 1 ≤ f s ∧ f s ≤ 12) :
    ∀ (j k : Nat) (I : zi_I), k + j = n → (∀ s, s < n → I p s = nI (f s)) → (∀ x, 1 ≤ x → x ≤ 12 → I (o + 1) x = nI (cd_F f n x) ∧ I (o + 3) x = nI (cd_s f n x)) → (∀ x, x ≤ 12 → I (o + 2) x = nI (cd_n f x k)) → (∀ s, s < k → I (o + 5) s = nI (cd_c f n s)) → (∀ s, s < k → I (o + 4) (cd_p f n s) = nI s) →
      (∀ I2, a_Codes I2 o n f → zf [o + 1, o + 2, o + 3, o + 4, o + 5] I I2 → Q none I2) →
      zi_X l (zx_rm (d + 1) 0 0) M_Codes_setTo K RJ Q 36 [(0, .ref o), (1, .ref p), (2, .int x2), (3, .int (nI n)), (4, .int (nI k))] [] I := by
  obtain ⟨g0, g1, g2, g3, g4, g5, gN⟩ := g
  intro j
  induction j with
  | zero =>
    intro k I hk hw h1 h2 h3 h4 q
    obtain rfl : k = n := by omega
    refine r_Codes_setTo_36 l d o p _ _ _ kp g0 g5.1 (by omega) g1.1 (by omega) g1.2 g2.1 (by omega) g2.2 g5.2 g4.1 (by omega) g3.1 (by omega) g3.2 g4.2 ⟨fun _ => q I ⟨h3, fun len a b => ⟨(h1 len a b).1, h2 len b, (h1 len a b).2⟩, h4⟩ zf_refl, fun c => ?_⟩
    exact absurd (nI_le (Nat.le_refl _) (by omega)) c
  | succ j ih =>
    intro k I hk hw h1 h2 h3 h4 q
    have hfk := hf k (by omega)
    have hx := hw k (by omega)
    have hpk := cd_p_lt (n := n) (show k < n by omega) hfk.1
    have hcn := cd_n_le f (f k) k
    refine r_Codes_setTo_36 l d o p _ _ _ kp g0 g5.1 (by omega) g1.1 (by omega) g1.2 g2.1 (by omega) g2.2 g5.2 g4.1 (by omega) g3.1 (by omega) g3.2 g4.2 ⟨fun c => ?_, fun _ => ⟨k, rfl, by omega, zi_mono (c_isLength l d) ?_⟩⟩
    · rw [nI_leI (by omega) (by omega)] at c
      omega
    · rintro r I2 ⟨rfl, rfl⟩
      rw [hx]
      refine ⟨_, rfl, fun c => ?_, fun c => ⟨f k, rfl, by omega, f k, rfl, by omega, zi_mono (c_mask l d (by omega)) ?_⟩⟩
      · rw [v_isLength (by omega)] at c
        exact absurd hfk c
      · rintro r I3 ⟨rfl, rfl⟩
        have ec : (I3 (o + 1) (f k) + I3 (o + 2) (f k)) &&& nI (2 ^ f k - 1) = nI (cd_c f n k) := by
          rw [(h1 _ hfk.1 hfk.2).1, h2 _ hfk.2, nI_add, nI_mask]
          rfl
        refine ⟨_, rfl, ?_⟩
        rw [ec]
        have ep : zx_u2 I3 (o + 5) k (nI (cd_c f n k)) (o + 3) (f k) + zx_u2 I3 (o + 5) k (nI (cd_c f n k)) (o + 2) (f k) = nI (cd_p f n k) := by
          rw [zx_u2_ne (by omega), zx_u2_ne (by omega), (h1 _ hfk.1 hfk.2).2, h2 _ hfk.2, nI_add]
          rfl
        refine ⟨k, rfl, by omega, f k, rfl, by omega, f k, rfl, by omega, cd_p f n k, ep, by omega, f k, rfl, by omega, f k, rfl, by omega, ?_⟩
        rw [zx_u2_ne (by omega), zx_u2_ne (by omega), h2 _ hfk.2, nI_1, nI_1]
        have z : zf [o + 1, o + 2, o + 3, o + 4, o + 5] I3 (zx_u2 (zx_u2 (zx_u2 I3 (o + 5) k (nI (cd_c f n k))) (o + 4) (cd_p f n k) (nI k)) (o + 2) (f k) (nI (cd_n f (f k) k + 1))) := zf_trans (zf_trans (zf_u2 (by simp)) (zf_u2 (by simp))) (zf_u2 (by simp))
        refine ih (k + 1) _ (by omega) (fun s hs => by rw [zf_at z (by simp only [List.mem_cons, List.not_mem_nil, or_false, not_or]; omega)]; exact hw s hs) (fun x a b => ⟨?_, ?_⟩) (fun x hx => ?_) (fun s hs => ?_) (fun s hs => ?_) (fun I4 y1 y2 => q I4 y1 (zf_trans z y2))
        · rw [zx_u2_ne (by omega), zx_u2_ne (by omega), zx_u2_ne (by omega)]
          exact (h1 x a b).1
        · rw [zx_u2_ne (by omega), zx_u2_ne (by omega), zx_u2_ne (by omega)]
          exact (h1 x a b).2
        · rw [cd_n_succ]
          by_cases e : x = f k
          · rw [e, zx_u2_s, if_pos rfl]
          · rw [zx_u2_k e, zx_u2_ne (by omega), zx_u2_ne (by omega), if_neg (Ne.symm e), h2 x hx]
            rfl
        · rw [zx_u2_ne (by omega), zx_u2_ne (by omega)]
          by_cases e : s = k
          · rw [e, zx_u2_s]
          · rw [zx_u2_k e]
            exact h3 s (by omega)
        · rw [zx_u2_ne (by omega)]
          by_cases e : s = k
          · rw [e, zx_u2_s]
          · rw [zx_u2_k (cd_p_ne (n := n) (by omega) (by omega) (hf s (by omega)).1 hfk.1), zx_u2_ne (by omega)]
            exact h4 s (by omega)
theorem c_setTo (l : Launch) (d : Nat) {I : zi_I} (g : g_Codes K RJ o N) (kp : K.2 p = (0, P)) (hp : p < o ∨ o + 5 < p) (hn : n ≤ P) (hnN : n ≤ N) (hP : P < 2 ^ 20) (hf : ∀ s, s < n → 1 ≤ f s ∧ f s ≤ 12) (hw : ∀ s, s < n → I p s = nI (f s)) :
    zi_C l (zx_rm (d + 2) 0 0) M_Codes_setTo [.ref o, .ref p, .int (nI n)] K RJ I (fun r I2 => r = none ∧ a_Codes I2 o n f ∧ zf [o + 1, o + 2, o + 3, o + 4, o + 5] I I2) := by
  have gN := g.2.2.2.2.2.2
  have em : zi_minv (nI n) (zi_minv (nI P) (nI N)) = nI n := by
    rw [zi_minN (by omega) (by omega), zi_minN (by omega) (by omega)]
    congr 1
    omega
  have mem : ∀ {S : List Nat}, (∀ q ∈ S, o + 1 ≤ q ∧ q ≤ o + 5) → p ∉ S := fun h z => by have := h _ z; omega
  refine zi_of (by decide) (fun α => Nat.le_of_ble_eq_true rfl) (r_Codes_setTo_0 l (d + 1) o p _ kp g.1 g.2.2.2.2.1.1 (by omega) g.2.2.2.2.1.2 g.2.2.1.1 (by omega) ?_)
  rw [em]
  refine zi_mono (c_countLengths (f := f) (n := n) l d g kp hp hn hP hf hw) ?_
  rintro r I2 ⟨rfl, u1, u2⟩
  refine ⟨rfl, zi_mono (c_placeLengths (f := f) (n := n) l d g (by omega) u1) ?_⟩
  rintro r I3 ⟨rfl, v1, v2⟩
  refine ⟨rfl, zi_mono (c_fill l (d + 1) g.2.2.1.2 (by decide)) ?_⟩
  rintro r I4 ⟨rfl, rfl⟩
  have z : zf [o + 2] I3 (fun c i => if c = o + 2 ∧ i < 13 then 0 else I3 c i) := fun c hc => by
    funext i
    show (if c = o + 2 ∧ i < 13 then (0 : Int32) else I3 c i) = I3 c i
    rw [if_neg (fun z => hc (by simp [z.1]))]
  refine ⟨rfl, t_st36 (f := f) (N := N) l (d + 1) g kp hp hn hnN hP hf n 0 _ (by omega) (fun s hs => ?_) (fun x a b => ⟨?_, ?_⟩) (fun x hx => ?_) (fun _ h => absurd h (by omega)) (fun _ h => absurd h (by omega)) (fun I5 y1 y2 => ⟨rfl, y1, zf_trans (zf_trans (zf_trans (zf_mono u2 ?_) (zf_mono v2 ?_)) (zf_mono z ?_)) y2⟩)⟩
  · rw [zf_at z (mem (by simp)), zf_at v2 (mem (by simp)), zf_at u2 (mem (by simp))]
    exact hw s hs
  · rw [zf_at z (by simp)]
    exact (v1 x a b).1
  · rw [zf_at z (by simp)]
    exact (v1 x a b).2
  · show (if o + 2 = o + 2 ∧ x < 13 then (0 : Int32) else I3 (o + 2) x) = nI 0
    rw [if_pos ⟨rfl, by omega⟩]
    rfl
  · simp
  · simp
  · simp
theorem c_codeOf (l : Launch) (d : Nat) {I : zi_I} {s : Nat} (g : g_Codes K RJ o N) (a : a_Codes I o n f) (hn : n ≤ N) (hs : s < n) :
    zi_C l (zx_rm d 0 0) M_Codes_codeOf [.ref o, .int (nI s)] K RJ I (fun r I2 => r = some (.int (nI (cd_c f n s))) ∧ I2 = I) := by
  have gN := g.2.2.2.2.2.2
  refine zi_of (by decide) (fun α => Nat.le_of_ble_eq_true rfl) (r_Codes_codeOf_0 l d o _ g.1 g.2.2.2.2.2.1.1 (by omega) g.2.2.2.2.2.1.2 ⟨fun c => absurd c (nI_pos (by omega)), fun _ => ⟨fun c => ?_, fun _ => ⟨s, rfl, by omega, by rw [a.1 s hs], rfl⟩⟩⟩)
  rw [nI_leI (by omega) (by omega)] at c
  omega
theorem c_find (l : Launch) (d : Nat) {I : zi_I} {bits len : Nat} (g : g_Codes K RJ o N) (a : a_Codes I o n f) (hn : n ≤ N) (hf : ∀ s, s < n → 1 ≤ f s ∧ f s ≤ 12) (h1 : 1 ≤ len) (h2 : len ≤ 12) (hb : bits < 2 ^ len) :
    zi_C l (zx_rm (d + 1) 0 0) M_Codes_find [.ref o, .int (nI bits), .int (nI len)] K RJ I (fun r I2 => r = some (.int (hf_v (cd_d f n bits len n))) ∧ I2 = I) := by
  obtain ⟨g0, g1, g2, g3, g4, g5, gN⟩ := g
  have hp := two_pow_12 h2
  have hF := cd_F_lt f n len
  have hcn := cd_n_le f len n
  have hmod := Nat.mod_lt (bits + 2 ^ len - cd_F f n len) (Nat.two_pow_pos len)
  obtain ⟨a1, a2, a3⟩ := a
  refine zi_of (by decide) (fun α => Nat.le_of_ble_eq_true rfl) (r_Codes_find_0 l d o _ _ g0 g1.1 (by omega) g1.2 g2.1 (by omega) g2.2 g4.1 (by omega) g3.1 (by omega) g3.2 g4.2 (zi_mono (c_isLength l d) ?_))
  rintro r I2 ⟨rfl, rfl⟩
  refine ⟨_, rfl, fun c => ⟨len, rfl, by omega, zi_mono (c_mask l d (by omega)) ?_⟩, fun c => ?_⟩
  · rintro r I3 ⟨rfl, rfl⟩
    refine ⟨_, rfl, len, rfl, by omega, ?_⟩
    rw [(a2 len h1 h2).1, (a2 len h1 h2).2.1, nI_behind h2 hF]
    rcases cd_d_eq (ln := f) (n := n) hb with ⟨b1, b2⟩ | ⟨s, b1, b2, b3, b4, b5⟩
    · refine ⟨fun _ => ⟨by rw [b2]; rfl, rfl⟩, fun c => ?_⟩
      rw [nI_leI (by omega) (by omega)] at c
      omega
    · refine ⟨fun c => ?_, fun _ => ⟨len, rfl, by omega, cd_p f n s, ?_, ?_, ?_, rfl⟩⟩
      · rw [nI_leI (by omega) (by omega)] at c
        omega
      · rw [(a2 len h1 h2).2.2, nI_add]
        unfold cd_p
        rw [b2, b3]
      · exact Nat.lt_of_lt_of_le (cd_p_lt b1 (hf s b1).1) hn
      · rw [a3 s b1, b5]
        rfl
  · rw [v_isLength (by omega)] at c
    exact absurd ⟨h1, h2⟩ c
end CC
