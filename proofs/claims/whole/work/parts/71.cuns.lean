/-! The class sorts back. -/
section CU
variable {K : zx_Kt} {RJ : zx_RJ} {o br ro N b n : Nat} {c : Nat → Nat}
def a_Co (I : zi_I) (b n : Nat) (c : Nat → Nat) : Prop := I b 2 = nI n ∧ ∀ i, i < n → I (b + 2) i = nI (c i)
theorem a_Co.keep {I I2 : zi_I} {S : List Nat} (a : a_Co I b n c) (h : zf S I I2) (h1 : b ∉ S) (h2 : b + 2 ∉ S) : a_Co I2 b n c := ⟨by rw [zf_at h h1]; exact a.1, fun k hk => by rw [zf_at h h2]; exact a.2 k hk⟩
theorem t_ff10 (l : Launch) (d : Nat) {Q : zi_Q} (g : g_BR K RJ o br ro N) (gb : g_Block K RJ b) (hob : o + 29 < b) (hn : n ≤ 64) (hc : ∀ i, i < n → c i < 256) :
    ∀ (j i : Nat) (I : zi_I), i + j = n → a_Co I b n c → (∀ v, v < 256 → I (o + 5) v = nI (un_eq c v i)) →
      (∀ I2, (∀ v, v < 256 → I2 (o + 5) v = nI (un_eq c v n)) → zf [o + 5] I I2 → zi_X l (zx_rm (d + 1) 0 0) M_BlockReader_findFollowers K RJ Q 43 [(0, .ref o), (1, .ref b), (2, .int 0), (3, .int 0)] [] I2) →
      zi_X l (zx_rm (d + 1) 0 0) M_BlockReader_findFollowers K RJ Q 10 [(0, .ref o), (1, .ref b), (2, .int (nI i))] [] I := by
  intro j
  induction j with
  | zero =>
    intro i I hi a hp q
    obtain rfl : i = n := by omega
    refine r_BlockReader_findFollowers_10 l d o b _ gb.k g.k g.pR (by omega) gb.co.1 (by omega) gb.co.2 g.pK ⟨fun _ => q I hp zf_refl, fun x => ?_⟩
    rw [a.1, nI_leI (by omega) (by omega)] at x
    omega
  | succ j ih =>
    intro i I hi a hp q
    have hv := hc i (by omega)
    refine r_BlockReader_findFollowers_10 l d o b _ gb.k g.k g.pR (by omega) gb.co.1 (by omega) gb.co.2 g.pK ⟨fun x => ?_, fun _ => ⟨i, rfl, by omega, c i, a.2 i (by omega), by omega, c i, a.2 i (by omega), by omega, ?_⟩⟩
    · rw [a.1, nI_leI (by omega) (by omega)] at x
      omega
    · rw [hp _ hv, nI_1, nI_1]
      have z : zf [o + 5] I (zx_u2 I (o + 5) (c i) (nI (un_eq c (c i) i + 1))) := zf_u2 (by simp)
      refine ih (i + 1) _ (by omega) (a.keep z (by simp; omega) (by simp; omega)) (fun v hv2 => ?_) (fun I3 y1 y2 => q I3 y1 (zf_trans z y2))
      rw [un_eq_s]
      by_cases e : v = c i
      · rw [e, zx_u2_s, if_pos rfl]
      · rw [zx_u2_k e, hp v hv2, if_neg (Ne.symm e)]
        rfl
theorem t_ff43 (l : Launch) (d : Nat) {Q : zi_Q} (g : g_BR K RJ o br ro N) (hn : n ≤ 64) :
    ∀ (j v : Nat) (I : zi_I), v + j = 256 → (∀ w, w < 256 → I (o + 5) w = nI (if w < v then un_lt c w n else un_eq c w n)) →
      (∀ I2 x, (∀ w, w < 256 → I2 (o + 5) w = nI (un_lt c w n)) → zf [o + 5] I I2 → zi_X l (zx_rm (d + 1) 0 0) M_BlockReader_findFollowers K RJ Q 78 [(0, .ref o), (1, .ref b), (2, .int x), (3, .int 0)] [] I2) →
      zi_X l (zx_rm (d + 1) 0 0) M_BlockReader_findFollowers K RJ Q 43 [(0, .ref o), (1, .ref b), (2, .int (nI (un_lt c v n))), (3, .int (nI v))] [] I := by
  intro j
  induction j with
  | zero =>
    intro v I hv hp q
    obtain rfl : v = 256 := by omega
    refine r_BlockReader_findFollowers_43 l d o b _ _ g.k g.pR (by omega) g.pK ⟨fun _ => q I _ (fun w hw => by rw [hp w hw, if_pos hw]) zf_refl, fun x => absurd (by decide) x⟩
  | succ j ih =>
    intro v I hv hp q
    refine r_BlockReader_findFollowers_43 l d o b _ _ g.k g.pR (by omega) g.pK ⟨fun x => ?_, fun _ => ⟨v, rfl, by omega, v, rfl, by omega, ?_⟩⟩
    · rw [show (256 : Int32) = nI 256 from rfl, nI_leI (by omega) (by omega)] at x
      omega
    · rw [hp v (by omega), if_neg (by omega), nI_add, ← un_lt_s, nI_1]
      have z : zf [o + 5] I (zx_u2 I (o + 5) v (nI (un_lt c v n))) := zf_u2 (by simp)
      refine ih (v + 1) _ (by omega) (fun w hw => ?_) (fun I3 x y1 y2 => q I3 x y1 (zf_trans z y2))
      by_cases e : w = v
      · rw [e, zx_u2_s, if_pos (by omega)]
      · rw [zx_u2_k e, hp w hw]
        by_cases h : w < v
        · rw [if_pos h, if_pos (show w < v + 1 by omega)]
        · rw [if_neg h, if_neg (show ¬ w < v + 1 by omega)]
theorem t_ff78 (l : Launch) (d : Nat) {Q : zi_Q} {x2 : Int32} (g : g_BR K RJ o br ro N) (gb : g_Block K RJ b) (hob : o + 29 < b) (hn : n ≤ 64) (hc : ∀ i, i < n → c i < 256) :
    ∀ (j i : Nat) (I : zi_I), i + j = n → a_Co I b n c → (∀ v, v < 256 → I (o + 5) v = nI (un_lt c v n + un_eq c v i)) → (∀ k, k < i → I (o + 4) (un_P c k n) = nI k) →
      (∀ I2, (∀ k, k < n → I2 (o + 4) (un_P c k n) = nI k) → zf [o + 4, o + 5] I I2 → Q none I2) →
      zi_X l (zx_rm (d + 1) 0 0) M_BlockReader_findFollowers K RJ Q 78 [(0, .ref o), (1, .ref b), (2, .int x2), (3, .int (nI i))] [] I := by
  intro j
  induction j with
  | zero =>
    intro i I hi a hp hf q
    obtain rfl : i = n := by omega
    refine r_BlockReader_findFollowers_78 l d o b _ _ gb.k gb.co.1 (by omega) gb.co.2 g.k g.fR (by omega) g.pR (by omega) g.pK g.fK ⟨fun _ => q I hf zf_refl, fun x => ?_⟩
    rw [a.1, nI_leI (by omega) (by omega)] at x
    omega
  | succ j ih =>
    intro i I hi a hp hf q
    have hv := hc i (by omega)
    have hP : un_lt c (c i) n + un_eq c (c i) i = un_P c i n := by
      rw [un_P_eq, show min n i = i by omega]
    have hPb := un_P_bd (c := c) (show i < n by omega)
    refine r_BlockReader_findFollowers_78 l d o b _ _ gb.k gb.co.1 (by omega) gb.co.2 g.k g.fR (by omega) g.pR (by omega) g.pK g.fK ⟨fun x => ?_, fun _ => ⟨i, rfl, by omega, c i, a.2 i (by omega), by omega, un_P c i n, by rw [hp _ hv, hP], by omega, c i, a.2 i (by omega), by omega, c i, a.2 i (by omega), by omega, ?_⟩⟩
    · rw [a.1, nI_leI (by omega) (by omega)] at x
      omega
    · rw [zx_u2_ne (by omega), hp _ hv, nI_1, nI_1]
      have z : zf [o + 4, o + 5] I (zx_u2 (zx_u2 I (o + 4) (un_P c i n) (nI i)) (o + 5) (c i) (nI (un_lt c (c i) n + un_eq c (c i) i + 1))) := zf_trans (zf_u2 (by simp)) (zf_u2 (by simp))
      refine ih (i + 1) _ (by omega) (a.keep z (by simp; omega) (by simp; omega)) (fun v hv2 => ?_) (fun k hk => ?_) (fun I3 y1 y2 => q I3 y1 (zf_trans z y2))
      · rw [un_eq_s]
        by_cases e : v = c i
        · rw [e, zx_u2_s, if_pos rfl, Nat.add_assoc]
        · rw [zx_u2_k e, zx_u2_ne (by omega), hp v hv2, if_neg (Ne.symm e)]
          rfl
      · rw [zx_u2_ne (by omega)]
        by_cases e : k = i
        · rw [e, zx_u2_s]
        · rw [zx_u2_k (fun h => e (un_P_inj (by omega) (by omega) h))]
          exact hf k (by omega)
theorem c_findFollowers (l : Launch) (d : Nat) {I : zi_I} (g : g_BR K RJ o br ro N) (gb : g_Block K RJ b) (hob : o + 29 < b) (hn : n ≤ 64) (hc : ∀ i, i < n → c i < 256) (a : a_Co I b n c) :
    zi_C l (zx_rm (d + 1) 0 0) M_BlockReader_findFollowers [.ref o, .ref b] K RJ I (fun r I2 => r = none ∧ (∀ k, k < n → I2 (o + 4) (un_P c k n) = nI k) ∧ zf [o + 4, o + 5] I I2) := by
  refine zi_of (by decide) (fun α => Nat.le_of_ble_eq_true rfl) (r_BlockReader_findFollowers_0 l d o b g.k g.pR (by omega) (zi_mono (c_fill l d g.pK (by decide)) ?_))
  rintro r I2 ⟨rfl, rfl⟩
  have z : zf [o + 5] I (fun c i => if c = o + 5 ∧ i < 256 then 0 else I c i) := fun c hc => by
    funext i
    show (if c = o + 5 ∧ i < 256 then (0 : Int32) else I c i) = I c i
    rw [if_neg (fun z => hc (by simp [z.1]))]
  refine ⟨rfl, t_ff10 (n := n) (c := c) l d g gb hob hn hc n 0 _ (by omega) (a.keep z (by simp; omega) (by simp; omega)) (fun v hv => ?_) (fun I3 y1 y2 => ?_)⟩
  · show (if o + 5 = o + 5 ∧ v < 256 then (0 : Int32) else I (o + 5) v) = nI 0
    rw [if_pos ⟨rfl, hv⟩]
    rfl
  · have h43 := t_ff43 (n := n) (c := c) (b := b) (Q := fun r I2 => r = none ∧ (∀ k, k < n → I2 (o + 4) (un_P c k n) = nI k) ∧ zf [o + 4, o + 5] I I2) l d g hn 256 0 I3 (by omega) (fun w hw => by rw [y1 w hw, if_neg (by omega)]) (fun I4 x w1 w2 => ?_)
    · rw [un_lt_0] at h43
      exact h43
    · have z4 := zf_trans (zf_trans z y2) w2
      refine t_ff78 (n := n) (c := c) l d g gb hob hn hc n 0 I4 (by omega) (a.keep z4 (by simp; omega) (by simp; omega)) (fun v hv => by rw [w1 v hv]; rfl) (fun _ h => absurd h (by omega)) (fun I5 u1 u2 => ⟨rfl, u1, zf_trans (zf_mono z4 (by simp)) u2⟩)
theorem t_un26 (l : Launch) (d : Nat) {Q : zi_Q} {og : Nat} (g : g_BR K RJ o br ro N) (gb : g_Block K RJ b) (hob : o + 29 < b) (hn : n ≤ 64) (hog : og < n) :
    ∀ (j i : Nat) (I : zi_I), i + j = n → a_Co I b n c → (∀ k, k < n → I (o + 4) (un_P c k n) = nI k) → (∀ k, k < i → I (b + 1) k = nI ((un_sh c n og).getD k 0)) →
      (∀ I2, (∀ k, k < n → I2 (b + 1) k = nI ((un_sh c n og).getD k 0)) → zf [b + 1] I I2 → Q (some (.int 0)) I2) →
      zi_X l (zx_rm (d + 1) 0 0) M_BlockReader_unsort K RJ Q 26 [(0, .ref o), (1, .ref b), (2, .int (nI (un_pos c n og i))), (3, .int (nI i))] [] I := by
  intro j
  induction j with
  | zero =>
    intro i I hi a hf hs q
    obtain rfl : i = n := by omega
    refine r_BlockReader_unsort_26 l d o b _ _ gb.k g.k g.fR (by omega) g.fK gb.sh.1 (by omega) gb.co.1 (by omega) gb.co.2 gb.sh.2 ⟨fun _ => q I hs zf_refl, fun x => ?_⟩
    rw [a.1, nI_leI (by omega) (by omega)] at x
    omega
  | succ j ih =>
    intro i I hi a hf hs q
    have h1 := un_pos_lt (c := c) hog i
    have h2 := un_pos_lt (c := c) hog (i + 1)
    have h3 := un_f_ok (c := c) h1
    have e1 : I (o + 4) (un_pos c n og i) = nI (un_pos c n og (i + 1)) := by
      have := hf _ h3.1
      rw [h3.2] at this
      exact this
    refine r_BlockReader_unsort_26 l d o b _ _ gb.k g.k g.fR (by omega) g.fK gb.sh.1 (by omega) gb.co.1 (by omega) gb.co.2 gb.sh.2 ⟨fun x => ?_, fun _ => ⟨_, rfl, by omega, un_pos c n og (i + 1), e1, by omega, i, rfl, by omega, ?_⟩⟩
    · rw [a.1, nI_leI (by omega) (by omega)] at x
      omega
    · rw [e1, a.2 _ h2, nI_1]
      have z : zf [b + 1] I (zx_u2 I (b + 1) i (nI (c (un_pos c n og (i + 1))))) := zf_u2 (by simp)
      refine ih (i + 1) _ (by omega) (a.keep z (by simp) (by simp)) (fun k hk => by rw [zf_at z (by simp; omega)]; exact hf k hk) (fun k hk => ?_) (fun I3 y1 y2 => q I3 y1 (zf_trans z y2))
      by_cases e : k = i
      · rw [e, zx_u2_s, un_sh_at (by omega)]
      · rw [zx_u2_k e]
        exact hs k (by omega)
theorem c_unsort (l : Launch) (d : Nat) {I : zi_I} {og : Nat} (g : g_BR K RJ o br ro N) (gb : g_Block K RJ b) (hob : o + 29 < b) (hn : n ≤ 64) (hog : og < 2 ^ 20) (hc : ∀ i, i < n → c i < 256) (h1 : I b 1 = nI og) (a : a_Co I b n c) :
    zi_C l (zx_rm (d + 2) 0 0) M_BlockReader_unsort [.ref o, .ref b] K RJ I (fun r I2 => (og < n ∧ r = some (.int 0) ∧ (∀ k, k < n → I2 (b + 1) k = nI ((un_sh c n og).getD k 0)) ∧ zf [o + 4, o + 5, b + 1] I I2) ∨ (¬ og < n ∧ r = some (.int (-12)) ∧ I2 = I)) := by
  refine zi_of (by decide) (fun α => Nat.le_of_ble_eq_true rfl) (r_BlockReader_unsort_0 l (d + 1) o b gb.k g.k ?_)
  rw [h1, a.1, nI_ltI (by omega) (by omega)]
  refine ⟨fun x => zi_mono (c_findFollowers (n := n) (c := c) l d g gb hob hn hc a) ?_, fun x => Or.inr ⟨x, rfl, rfl⟩⟩
  rintro r I2 ⟨rfl, v1, v2⟩
  have h12 : I2 b 1 = nI og := by rw [zf_at v2 (by simp; omega)]; exact h1
  rw [h12]
  exact ⟨rfl, t_un26 (n := n) (c := c) (og := og) l (d + 1) g gb hob hn x n 0 I2 (by omega) (a.keep v2 (by simp; omega) (by simp; omega)) v1 (fun _ h => absurd h (by omega)) (fun I3 y1 y2 => Or.inl ⟨x, rfl, y1, zf_trans (zf_mono v2 (by simp)) (zf_mono y2 (by simp))⟩)⟩
end CU
