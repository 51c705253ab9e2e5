/-! The class's Trees. -/
def g_Trees (K : zx_Kt) (RJ : zx_RJ) (o : Nat) : Prop := (K.2 o).1 = 17 ∧ (RJ.1 o 0 = o + 1 ∧ K.2 (o + 1) = (0, 132)) ∧ (RJ.1 o 1 = o + 2 ∧ K.2 (o + 2) = (0, 132)) ∧ (RJ.1 o 2 = o + 3 ∧ K.2 (o + 3) = (0, 132)) ∧ (RJ.1 o 3 = o + 4 ∧ K.2 (o + 4) = (0, 66))
section TR
variable {K : zx_Kt} {RJ : zx_RJ} {o n : Nat} {w f : Nat → Nat}
theorem mvJ_o {I : zi_I} {q k j c : Nat} (h : c ≠ q) (i : Nat) : mvJ I q k j c i = I c i := by
  unfold mvJ
  rw [if_neg (fun z => h z.1)]
theorem t_ss12 (l : Launch) (d : Nat) {I : zi_I} {s : Nat} {Q : zi_Q} (g : g_Trees K RJ o) (hn : n ≤ 66) (hs : s < n) (ho : hq_ord w f s) (hw : ∀ k, k < n → I (o + 1) k = nI (w k) ∧ w k < 2 ^ 20) (cf : ∀ i, i < s → I (o + 4) i = nI (f i))
    (q : ∀ p, p ≤ s → (∀ i, i < p → w (f i) ≤ w s) → (∀ i, p ≤ i → i < s → w s < w (f i)) → zi_X l (zx_rm d 0 0) M_Trees_sortSymbols K RJ Q 2 [(0, .ref o), (1, .int (nI (s + 1)))] [] (zx_u2 (mvJ I (o + 4) s p) (o + 4) p (nI s))) :
    ∀ p, p ≤ s → (∀ i, p ≤ i → i < s → w s < w (f i)) → zi_X l (zx_rm d 0 0) M_Trees_sortSymbols K RJ Q 12 [(0, .ref o), (1, .int (nI s)), (2, .int (nI p))] [] (mvJ I (o + 4) s p) := by
  obtain ⟨g0, g1, g2, g3, g4⟩ := g
  intro p
  induction p with
  | zero =>
    intro hp h2
    refine r_Trees_sortSymbols_12 l d o _ _ g0 g4.1 (by omega) g4.2 g1.1 (by omega) g1.2 ⟨fun _ => ⟨0, rfl, by omega, ?_⟩, fun c => absurd (by decide) c⟩
    rw [nI_1]
    exact q 0 (by omega) (fun i hi => by omega) h2
  | succ p ih =>
    intro hp h2
    have hfp := ho.1 p (by omega)
    refine r_Trees_sortSymbols_12 l d o _ _ g0 g4.1 (by omega) g4.2 g1.1 (by omega) g1.2 ⟨fun c => ?_, fun _ => ⟨p, nI_pred p, by omega, f p, ?_, by omega, s, rfl, by omega, fun c => ⟨p + 1, rfl, by omega, ?_⟩, fun c => ⟨p, nI_pred p, by omega, p + 1, rfl, by omega, ?_⟩⟩⟩
    · rw [show (0 : Int32) = nI 0 from rfl, nI_leI (by omega) (by omega)] at c
      omega
    · show (if o + 4 = o + 4 ∧ p + 1 < p ∧ p ≤ s then _ else I (o + 4) p) = _
      rw [if_neg (by omega), cf p (by omega)]
    · rw [mvJ_o (by omega), mvJ_o (by omega), (hw _ (by omega)).1, (hw _ (by omega)).1, nI_leI (Nat.lt_trans (hw _ (by omega)).2 (by decide)) (Nat.lt_trans (hw _ (by omega)).2 (by decide))] at c
      rw [nI_1]
      refine q (p + 1) hp (fun i hi => ?_) h2
      by_cases e : i = p
      · rw [e]
        exact c
      · have := ho.2.1 i p (by omega) (by omega)
        unfold hq_lt at this
        omega
    · rw [mvJ_o (by omega), mvJ_o (by omega), (hw _ (by omega)).1, (hw _ (by omega)).1, nI_leI (Nat.lt_trans (hw _ (by omega)).2 (by decide)) (Nat.lt_trans (hw _ (by omega)).2 (by decide))] at c
      rw [pk_m1, mvJ_step (by omega)]
      refine ih (by omega) (fun i h3 h4 => ?_)
      by_cases e : i = p
      · rw [e]
        omega
      · exact h2 i (by omega) h4
theorem t_ss2 (l : Launch) (d : Nat) {Q : zi_Q} (g : g_Trees K RJ o) (hn : n ≤ 66) :
    ∀ (j s : Nat) (f : Nat → Nat) (I : zi_I), s + j = n → hq_ord w f s → I o 4 = nI n → (∀ k, k < n → I (o + 1) k = nI (w k) ∧ w k < 2 ^ 20) → (∀ i, i < s → I (o + 4) i = nI (f i)) →
      (∀ I2 f2, hq_ord w f2 n → (∀ i, i < n → I2 (o + 4) i = nI (f2 i)) → zf [o + 4] I I2 → Q none I2) →
      zi_X l (zx_rm d 0 0) M_Trees_sortSymbols K RJ Q 2 [(0, .ref o), (1, .int (nI s))] [] I := by
  intro j
  induction j with
  | zero =>
    intro s f I hs ho h4 hw cf q
    obtain rfl : s = n := by omega
    refine r_Trees_sortSymbols_2 l d o _ g.1 ⟨fun _ => q I f ho cf zf_refl, fun c => ?_⟩
    rw [h4, nI_leI (by omega) (by omega)] at c
    omega
  | succ j ih =>
    intro s f I hs ho h4 hw cf q
    refine r_Trees_sortSymbols_2 l d o _ g.1 ⟨fun c => ?_, fun _ => ?_⟩
    · rw [h4, nI_leI (by omega) (by omega)] at c
      omega
    · have h0 := t_ss12 (Q := Q) (w := w) (f := f) (I := I) (s := s) (n := n) l d g hn (by omega) ho hw cf ?_ s (Nat.le_refl _) (fun i h1 h2 => by omega)
      · rw [mvJ_top] at h0
        exact h0
      · intro p hp h1 h2
        have z : zf [o + 4] I (zx_u2 (mvJ I (o + 4) s p) (o + 4) p (nI s)) := fun c hc => by
          have hc2 : c ≠ o + 4 := fun e => hc (by simp [e])
          rw [zx_u2_off hc2]
          funext i
          exact mvJ_o hc2 i
        refine ih (s + 1) (hq_ins f p s) _ (by omega) (hq_ins_ord ho hp h1 h2) (by rw [z o (by simp)]; exact h4) (fun k hk => by rw [z (o + 1) (by simp)]; exact hw k hk) (fun i hi => ?_) (fun I2 f2 y1 y2 y3 => q I2 f2 y1 y2 (zf_trans z y3))
        rcases Nat.lt_trichotomy i p with c | c | c
        · rw [zx_u2_k (by omega), hq_ins_lt c, ← cf i (by omega)]
          unfold mvJ
          rw [if_neg (by omega)]
        · subst c
          rw [zx_u2_s, hq_ins_eq]
        · rw [zx_u2_k (by omega), hq_ins_gt c, ← cf (i - 1) (by omega)]
          unfold mvJ
          rw [if_pos (by omega)]
theorem c_sortSymbols (l : Launch) (d : Nat) {I : zi_I} (g : g_Trees K RJ o) (hn : n ≤ 66) (h4 : I o 4 = nI n) (hw : ∀ k, k < n → I (o + 1) k = nI (w k) ∧ w k < 2 ^ 20) : zi_C l (zx_rm d 0 0) M_Trees_sortSymbols [.ref o] K RJ I (fun r I2 => r = none ∧ ∃ f, hq_ord w f n ∧ (∀ i, i < n → I2 (o + 4) i = nI (f i)) ∧ zf [o + 4] I I2) :=
  zi_of (by decide) (fun α => Nat.le_of_ble_eq_true rfl) (r_Trees_sortSymbols_0 l d o (t_ss2 (w := w) (n := n) l d g hn n 0 (fun _ => 0) I (by omega) ⟨fun i hi => by omega, fun i j h1 h2 => by omega, fun k hk => by omega⟩ h4 hw (fun i hi => by omega) (fun I2 f2 y1 y2 y3 => ⟨rfl, f2, y1, y2, y3⟩)))
theorem c_takeFirst (l : Launch) (d : Nat) {I : zi_I} {t a b : Nat} (g : g_Trees K RJ o) (hn : n ≤ 66) (ht : t ≤ 132) (h4 : I o 4 = nI n) (h5 : I o 5 = nI a) (h6 : I o 6 = nI b) (hf : hq_ord w f n) (cf : ∀ i, i < n → I (o + 4) i = nI (f i)) (hw : ∀ k, k < t → I (o + 1) k = nI (w k) ∧ w k < 2 ^ 20)
    (ha : a ≤ n) (hb : n ≤ b) (hb2 : b ≤ t) (hm : ∀ j k, n ≤ j → j ≤ k → k < t → w j ≤ w k) (hx : a < n ∨ b < t) :
    zi_C l (zx_rm d 0 0) M_Trees_takeFirst [.ref o, .int (nI t)] K RJ I (fun r I2 => ∃ v a2 b2, r = some (.int (nI v)) ∧ I2 = zx_u2 (zx_u2 I o 5 (nI a2)) o 6 (nI b2) ∧ a2 ≤ n ∧ n ≤ b2 ∧ b2 ≤ t ∧ hf_min w (hq_P f n a b) t v ∧ ∀ k, k < t → (hq_P f n a2 b2 k ↔ hq_P f n a b k ∧ k ≠ v)) := by
  obtain ⟨g0, g1, g2, g3, g4⟩ := g
  have hsym : ∀ x2 x3, a < n → (b < t → w (f a) ≤ w b) → zi_X l (zx_rm d 0 0) M_Trees_takeFirst K RJ (fun r I2 => ∃ v a2 b2, r = some (.int (nI v)) ∧ I2 = zx_u2 (zx_u2 I o 5 (nI a2)) o 6 (nI b2) ∧ a2 ≤ n ∧ n ≤ b2 ∧ b2 ≤ t ∧ hf_min w (hq_P f n a b) t v ∧ ∀ k, k < t → (hq_P f n a2 b2 k ↔ hq_P f n a b k ∧ k ≠ v)) 65 [(0, .ref o), (1, .int (nI t)), (2, .int x2), (3, .int x3)] [] I := fun x2 x3 h1 h2 => by
    refine r_Trees_takeFirst_65 l d o _ _ _ g0 g4.1 (by omega) g4.2 ⟨a, by rw [h5, nI_1, nI_pred], by omega, f a, a + 1, b, by rw [zx_u2_ne (by omega), cf a h1], ?_, by omega, hb, hb2, hq_sym hf h1 hb hb2 hm h2⟩
    rw [h5, nI_1, zx_u2_self (f := zx_u2 I o 5 (nI (a + 1))) (v := nI b) (by rw [zx_u2_k (by decide), h6])]
  have htree : ∀ x2 x3, ¬ x3 = 0 → b < t → (a < n → w b < w (f a)) → zi_X l (zx_rm d 0 0) M_Trees_takeFirst K RJ (fun r I2 => ∃ v a2 b2, r = some (.int (nI v)) ∧ I2 = zx_u2 (zx_u2 I o 5 (nI a2)) o 6 (nI b2) ∧ a2 ≤ n ∧ n ≤ b2 ∧ b2 ≤ t ∧ hf_min w (hq_P f n a b) t v ∧ ∀ k, k < t → (hq_P f n a2 b2 k ↔ hq_P f n a b k ∧ k ≠ v)) 87 [(0, .ref o), (1, .int (nI t)), (2, .int x2), (3, .int x3)] [] I := fun x2 x3 h0 h1 h2 => by
    refine r_Trees_takeFirst_87 l d o _ _ _ g0 ⟨fun _ => ⟨b, a, b + 1, by rw [h6, nI_1, nI_pred], ?_, ha, by omega, by omega, hq_tree hf hb h1 hm h2⟩, fun c => absurd c h0⟩
    rw [h6, nI_1, zx_u2_self (f := I) (p := o) (j := 5) (v := nI a) h5]
  refine zi_of (by decide) (fun α => Nat.le_of_ble_eq_true rfl) (r_Trees_takeFirst_0 l d o _ g0 ⟨fun c => ?_, fun c => ?_⟩)
  · rw [h4, h5, nI_leI (by omega) (by omega)] at c
    refine r_Trees_takeFirst_16 l d o _ _ g0 ⟨fun c2 => ?_, fun c2 => ?_⟩
    · rw [h6, nI_leI (by omega) (by omega)] at c2
      omega
    · rw [h6, nI_leI (by omega) (by omega)] at c2
      exact r_Trees_takeFirst_30 l d o _ _ _ g0 g1.1 (by omega) g4.1 (by omega) g4.2 g1.2 ⟨fun _ => htree _ _ (by decide) (by omega) (fun h => by omega), fun c3 => absurd rfl c3⟩
  · rw [h4, h5, nI_leI (by omega) (by omega)] at c
    have hfa := hf.1 a (by omega)
    refine r_Trees_takeFirst_16 l d o _ _ g0 ⟨fun c2 => ?_, fun c2 => ?_⟩
    · rw [h6, nI_leI (by omega) (by omega)] at c2
      exact r_Trees_takeFirst_30 l d o _ _ _ g0 g1.1 (by omega) g4.1 (by omega) g4.2 g1.2 ⟨fun c3 => absurd c3 (by decide), fun _ => ⟨fun _ => hsym _ _ (by omega) (fun h => by omega), fun c3 => absurd rfl c3⟩⟩
    · rw [h6, nI_leI (by omega) (by omega)] at c2
      refine r_Trees_takeFirst_30 l d o _ _ _ g0 g1.1 (by omega) g4.1 (by omega) g4.2 g1.2 ⟨fun c3 => absurd c3 (by decide), fun _ => ⟨fun c3 => absurd c3 (by decide), fun _ => ⟨a, h5, by omega, f a, cf a (by omega), by omega, b, h6, by omega, fun c3 => ?_, fun c3 => ?_⟩⟩⟩
      · rw [(hw b (by omega)).1, (hw (f a) (by omega)).1, nI_ltI (Nat.lt_trans (hw _ (by omega)).2 (by decide)) (Nat.lt_trans (hw _ (by omega)).2 (by decide))] at c3
        exact htree _ _ (by decide) (by omega) (fun _ => c3)
      · rw [(hw b (by omega)).1, (hw (f a) (by omega)).1, nI_ltI (Nat.lt_trans (hw _ (by omega)).2 (by decide)) (Nat.lt_trans (hw _ (by omega)).2 (by decide))] at c3
        exact hsym _ _ (by omega) (fun _ => by omega)
end TR
