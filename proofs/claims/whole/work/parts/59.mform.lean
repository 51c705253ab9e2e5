/-! The reference shortens and checks. -/
theorem aA_add {I : zi_I} {q v : Nat} {L : List Nat} (a : aA I q L) : aA (zx_u2 I q L.length (nI v)) q (L ++ [v]) := fun i hi => by
  rw [List.length_append, List.length_singleton] at hi
  by_cases e : i = L.length
  · rw [e, zx_u2_s]
    simp
  · rw [zx_u2_k e, a i (by omega)]
    simp only [List.getD_eq_getElem?_getD]
    rw [List.getElem?_append_left (by omega)]
theorem cr_shift (f : Nat → Nat) (a : Nat) : ∀ j i c, cr_fn f (a + i) j c = cr_fn (fun k => f (a + k)) i j c
  | 0, _, _ => rfl
  | j + 1, i, c => cr_shift f a j (i + 1) (cr_b c (f (a + i)))
theorem cr_fn_lt {f : Nat → Nat} : ∀ j i c, c < 65536 → (∀ k, i ≤ k → k < i + j → f k < 256) → cr_fn f i j c < 65536
  | 0, _, _, h, _ => h
  | j + 1, i, c, h, hf => cr_fn_lt j (i + 1) _ (cr_b_lt h (hf i (Nat.le_refl _) (by omega))) (fun k h1 h2 => hf k (by omega) (by omega))
theorem a_In.keepf {I I2 : zi_I} {m : Nat} {bs S : List Nat} (a : a_In I m bs) (h : zf S I I2) (h1 : m ∉ S) (h2 : m + 1 ∉ S) : a_In I2 m bs := ⟨a.1, by rw [zf_at h h1]; exact a.2.1, fun i hi => by rw [zf_at h h2]; exact a.2.2.1 i hi, a.2.2.2⟩
theorem a_In.keepg {I I2 : zi_I} {m : Nat} {bs F S : List Nat} (a : a_In I m bs) (h : zg m F S I I2) (h1 : 1 ∉ F) (h2 : m + 1 ∉ S) : a_In I2 m bs := ⟨a.1, by rw [h.1 1 h1]; exact a.2.1, fun i hi => by rw [zg_cell h (by omega) h2]; exact a.2.2.1 i hi, a.2.2.2⟩
section MF
variable {K : zx_Kt} {RJ : zx_RJ} {m fr n : Nat} {bs : List Nat}
theorem t_mck (l : Launch) (d : Nat) {Q : zi_Q} {I : zi_I} {f : Nat → Nat} (g : g_Mod K RJ m) (hn : n ≤ 3600) (h12 : I m 12 = nI n) (hp : ∀ k, k < n → I (m + 4) k = nI (f k)) (hf : ∀ k, k < n → f k < 256) :
    ∀ (j i c : Nat), i + j = n → c < 65536 → Q (some (.int (nI (cr_fn f i j c)))) I → zi_X l (zx_rm (d + 1) 0 0) M_Mod_checkOf K RJ Q 5 [(0, .ref m), (1, .int (nI c)), (2, .int (nI i))] [] I := by
  intro j
  induction j with
  | zero =>
    intro i c hi hc q
    refine r_Mod_checkOf_5 l d m _ _ g.1 g.plainR (by omega) g.plainK ⟨fun _ => q, fun c => ?_⟩
    rw [h12, nI_leI (by omega) (by omega)] at c
    omega
  | succ j ih =>
    intro i c hi hc q
    refine r_Mod_checkOf_5 l d m _ _ g.1 g.plainR (by omega) g.plainK ⟨fun c => ?_, fun _ => ⟨i, rfl, by omega, ?_⟩⟩
    · rw [h12, nI_leI (by omega) (by omega)] at c
      omega
    · rw [hp i (by omega)]
      refine zi_mono (c_step l d hc (hf i (by omega))) ?_
      rintro r I2 ⟨rfl, rfl⟩
      rw [nI_1]
      exact ⟨_, rfl, ih (i + 1) _ (by omega) (cr_b_lt hc (hf i (by omega))) q⟩
theorem c_mcheckOf (l : Launch) (d : Nat) {I : zi_I} {f : Nat → Nat} (g : g_Mod K RJ m) (hn : n ≤ 3600) (h12 : I m 12 = nI n) (hp : ∀ k, k < n → I (m + 4) k = nI (f k)) (hf : ∀ k, k < n → f k < 256) :
    zi_C l (zx_rm (d + 1) 0 0) M_Mod_checkOf [.ref m] K RJ I (fun r I2 => r = some (.int (nI (cr_fn f 0 n 65535))) ∧ I2 = I) :=
  zi_of (by decide) (fun α => Nat.le_of_ble_eq_true rfl) (r_Mod_checkOf_0 l d m (t_mck (f := f) (n := n) (Q := fun r I2 => r = some (.int (nI (cr_fn f 0 n 65535))) ∧ I2 = I) l d g hn h12 hp hf n 0 65535 (by omega) (by decide) ⟨rfl, rfl⟩))
theorem pf_len (x j : Nat) : (pf x j).length = if j < 4 then j else 5 := by
  unfold pf
  split <;> simp
theorem a_In.fb_lt {I : zi_I} (a : a_In I m bs) (i : Nat) : fb bs fr i < 256 := by
  unfold fb
  exact a.lt _
theorem t_msh84 (l : Launch) (d : Nat) {Q : zi_Q} {i r sm : Nat} {x1 x2 : Int32} (g : g_Mod K RJ m) (hi : fr + i < bs.length) (hr1 : 1 ≤ r) (hr : r ≤ 255) (hsm : sm = if 4 ≤ r then 4 else r) {L : List Nat} (hL : L.length + (pf (fb bs fr i) r).length ≤ 71) :
    ∀ (j t : Nat) (I : zi_I), t + j = sm → a_In I m bs → aA I (m + 5) (L ++ List.replicate t (fb bs fr i)) →
      (∀ I2, aA I2 (m + 5) (L ++ pf (fb bs fr i) r) → zf [m + 5] I I2 → zi_X l (zx_rm d 0 0) M_Mod_shorten K RJ Q 5 [(0, .ref m), (1, .int x1), (2, .int x2), (3, .int (nI (L ++ pf (fb bs fr i) r).length)), (4, .int (nI (fr + i) + nI r))] [] I2) →
      zi_X l (zx_rm d 0 0) M_Mod_shorten K RJ Q 84 [(0, .ref m), (1, .int x1), (2, .int x2), (3, .int (nI (L.length + t))), (4, .int (nI (fr + i))), (5, .int (nI r)), (6, .int (nI sm)), (7, .int (nI t))] [] I := by
  have hpl := pf_len (fb bs fr i) r
  have hsm4 : sm ≤ 4 := by
    rw [hsm]
    split <;> omega
  intro j
  induction j with
  | zero =>
    intro t I ht ai a q
    have hb := ai.1
    obtain rfl : t = sm := by omega
    refine r_Mod_shorten_84 l d m _ _ _ _ _ _ _ g.1 g.shortRowR (by omega) g.shortRowK g.inpR (by omega) g.inpK ⟨fun _ => ⟨fun c => ?_, fun c => ⟨L.length + t, rfl, ?_, ?_⟩⟩, fun c => ?_⟩
    · rw [show (3 : Int32) = nI 3 from rfl, nI_leI (by omega) (by omega)] at c
      rw [if_neg (by omega)] at hsm
      subst hsm
      have ep : pf (fb bs fr i) t = List.replicate t (fb bs fr i) := by unfold pf; rw [if_pos (by omega)]
      rw [ep] at q
      have := q I a zf_refl
      rw [List.length_append, List.length_replicate] at this
      exact this
    · rw [show (3 : Int32) = nI 3 from rfl, nI_leI (by omega) (by omega)] at c
      rw [if_neg (by omega)] at hpl
      rw [if_pos (by omega)] at hsm
      omega
    · rw [show (3 : Int32) = nI 3 from rfl, nI_leI (by omega) (by omega)] at c
      rw [if_neg (by omega)] at hpl
      rw [if_pos (by omega)] at hsm
      subst hsm
      have ep : pf (fb bs fr i) r = List.replicate 4 (fb bs fr i) ++ [r - 4] := by unfold pf; rw [if_neg (by omega)]
      rw [show (4 : Int32) = nI 4 from rfl, pk_sub (by omega), nI_1]
      have el : (L ++ List.replicate 4 (fb bs fr i)).length = L.length + 4 := by rw [List.length_append, List.length_replicate]
      have a2 := aA_add (v := r - 4) a
      rw [el, List.append_assoc, ← ep] at a2
      have := q _ a2 (zf_u2 (by simp))
      rw [List.length_append, hpl] at this
      exact this
    · exact absurd (nI_le (Nat.le_refl _) (by omega)) c
  | succ j ih =>
    intro t I ht ai a q
    have hb := ai.1
    have hsz : L.length + t < 80 := by
      split at hsm <;> split at hpl <;> omega
    have hsm4 : sm ≤ 4 := by
      split at hsm <;> omega
    refine r_Mod_shorten_84 l d m _ _ _ _ _ _ _ g.1 g.shortRowR (by omega) g.shortRowK g.inpR (by omega) g.inpK ⟨fun c => ?_, fun _ => ⟨fr + i, rfl, by omega, L.length + t, rfl, hsz, ?_⟩⟩
    · rw [nI_leI (by omega) (by omega)] at c
      omega
    · rw [ai.2.2.1 _ hi, nI_1, nI_1]
      have el : (L ++ List.replicate t (fb bs fr i)).length = L.length + t := by rw [List.length_append, List.length_replicate]
      have a2 := aA_add (v := fb bs fr i) a
      rw [el, List.append_assoc, ← List.replicate_succ'] at a2
      have z : zf [m + 5] I (zx_u2 I (m + 5) (L.length + t) (nI (fb bs fr i))) := zf_u2 (by simp)
      exact ih (t + 1) _ (by omega) (ai.keepf z (by simp) (by simp)) a2 (fun I3 y1 y2 => q I3 y1 (zf_trans z y2))
theorem t_msh22 (l : Launch) (d : Nat) {Q : zi_Q} {I : zi_I} {i : Nat} {x3 : Int32} (g : g_Mod K RJ m) (hfr : fr + n ≤ bs.length) (hi : i < n) (ai : a_In I m bs)
    (q : ∀ r, 1 ≤ r → r ≤ 255 → i + r ≤ n → (∀ k, k < r → fb bs fr (i + k) = fb bs fr i) → (i + r = n ∨ r = 255 ∨ fb bs fr (i + r) ≠ fb bs fr i) → zi_X l (zx_rm d 0 0) M_Mod_shorten K RJ Q 84 [(0, .ref m), (1, .int (nI fr)), (2, .int (nI n)), (3, .int x3), (4, .int (nI (fr + i))), (5, .int (nI r)), (6, .int (nI (if 4 ≤ r then 4 else r))), (7, .int 0)] [] I) :
    ∀ (j r : Nat), r + j = 255 → 1 ≤ r → i + r ≤ n → (∀ k, k < r → fb bs fr (i + k) = fb bs fr i) → zi_X l (zx_rm d 0 0) M_Mod_shorten K RJ Q 22 [(0, .ref m), (1, .int (nI fr)), (2, .int (nI n)), (3, .int x3), (4, .int (nI (fr + i))), (5, .int (nI r))] [] I := by
  have hb := ai.1
  have fin : ∀ r, 1 ≤ r → r ≤ 255 → i + r ≤ n → (∀ k, k < r → fb bs fr (i + k) = fb bs fr i) → (i + r = n ∨ r = 255 ∨ fb bs fr (i + r) ≠ fb bs fr i) → (((4 : Int32) ≤ nI r) → zi_X l (zx_rm d 0 0) M_Mod_shorten K RJ Q 84 [(0, .ref m), (1, .int (nI fr)), (2, .int (nI n)), (3, .int x3), (4, .int (nI (fr + i))), (5, .int (nI r)), (6, .int 4), (7, .int 0)] [] I) ∧ ((¬ (4 : Int32) ≤ nI r) → zi_X l (zx_rm d 0 0) M_Mod_shorten K RJ Q 84 [(0, .ref m), (1, .int (nI fr)), (2, .int (nI n)), (3, .int x3), (4, .int (nI (fr + i))), (5, .int (nI r)), (6, .int (nI r)), (7, .int 0)] [] I) := by
    intro r h1 h2 h3 h4 h5
    have := q r h1 h2 h3 h4 h5
    rw [show (4 : Int32) = nI 4 from rfl, nI_leI (by omega) (by omega)]
    refine ⟨fun c => ?_, fun c => ?_⟩
    · rw [if_pos c] at this
      exact this
    · rw [if_neg c] at this
      exact this
  have e1 : nI fr + nI n = nI (fr + n) := nI_add _ _
  intro j
  induction j with
  | zero =>
    intro r hr h1 h3 h4
    obtain rfl : r = 255 := by omega
    refine r_Mod_shorten_22 l d m _ _ _ _ _ g.1 g.inpR (by omega) g.inpK ⟨fun _ => fin 255 h1 (by omega) h3 h4 (Or.inr (Or.inl rfl)), fun _ => ⟨fun _ => fin 255 h1 (by omega) h3 h4 (Or.inr (Or.inl rfl)), fun c => absurd (by decide) c⟩⟩
  | succ j ih =>
    intro r hr h1 h3 h4
    refine r_Mod_shorten_22 l d m _ _ _ _ _ g.1 g.inpR (by omega) g.inpK ⟨fun c => ?_, fun c => ⟨fun c2 => ?_, fun _ => ⟨fr + i + r, nI_add _ _, ?_, fr + i, rfl, by omega, fun c2 => ?_, fun c2 => ?_⟩⟩⟩
    · rw [e1, nI_add, nI_leI (by omega) (by omega)] at c
      exact fin r h1 (by omega) h3 h4 (Or.inl (by omega))
    · rw [show (255 : Int32) = nI 255 from rfl, nI_leI (by omega) (by omega)] at c2
      omega
    · rw [e1, nI_add, nI_leI (by omega) (by omega)] at c
      omega
    · rw [e1, nI_add, nI_leI (by omega) (by omega)] at c
      have b1 := ai.lt (fr + i + r)
      have b2 := ai.lt (fr + i)
      rw [ai.2.2.1 _ (by omega), ai.2.2.1 _ (by omega), nI_eq (by omega) (by omega)] at c2
      refine fin r h1 (by omega) h3 h4 (Or.inr (Or.inr ?_))
      unfold fb
      rw [← Nat.add_assoc]
      exact c2
    · rw [e1, nI_add, nI_leI (by omega) (by omega)] at c
      have b1 := ai.lt (fr + i + r)
      have b2 := ai.lt (fr + i)
      rw [ai.2.2.1 _ (by omega), ai.2.2.1 _ (by omega), nI_eq (by omega) (by omega)] at c2
      rw [nI_1]
      refine ih (r + 1) (by omega) (by omega) (by omega) (fun k hk => ?_)
      by_cases e : k = r
      · rw [e]
        unfold fb
        rw [← Nat.add_assoc]
        exact c2
      · exact h4 k (by omega)
theorem t_msh5 (l : Launch) (d : Nat) {Q : zi_Q} (g : g_Mod K RJ m) (hfr : fr + n ≤ bs.length) (hl : (sh_F (fb bs fr) n).length ≤ 71) :
    ∀ (j i : Nat) (I : zi_I), i + j = n → a_In I m bs → aA I (m + 5) (sh_F (fb bs fr) i) → (i = n ∨ i = 0 ∨ fb bs fr i ≠ fb bs fr (i - 1) ∨ sh_p (fb bs fr) i = 255) →
      (∀ I2, aA I2 (m + 5) (sh_F (fb bs fr) n) → zf [m + 5] I I2 → Q (some (.int (nI (sh_F (fb bs fr) n).length))) I2) →
      zi_X l (zx_rm d 0 0) M_Mod_shorten K RJ Q 5 [(0, .ref m), (1, .int (nI fr)), (2, .int (nI n)), (3, .int (nI (sh_F (fb bs fr) i).length)), (4, .int (nI (fr + i)))] [] I := by
  intro j
  induction j using Nat.strongRecOn with
  | ind j ih =>
    intro i I hi ai a hbd q
    have hb := ai.1
    have e1 : nI fr + nI n = nI (fr + n) := nI_add _ _
    by_cases h0 : j = 0
    · obtain rfl : i = n := by omega
      refine r_Mod_shorten_5 l d m _ _ _ _ ⟨fun _ => q I a zf_refl, fun c => ?_⟩
      rw [e1] at c
      exact absurd (nI_le (Nat.le_refl _) (by omega)) c
    · have hmono := sh_F_mono (fb bs fr) i j
      rw [hi] at hmono
      refine r_Mod_shorten_5 l d m _ _ _ _ ⟨fun c => ?_, fun _ => ⟨fun c => ?_, fun _ => ?_⟩⟩
      · rw [e1, nI_leI (by omega) (by omega)] at c
        omega
      · rw [show (72 : Int32) = nI 72 from rfl, nI_leI (by omega) (by omega)] at c
        omega
      · refine t_msh22 (bs := bs) l d g hfr (by omega) ai (fun r h1 h2 h3 h4 h5 => ?_) 254 1 (by omega) (by omega) (by omega) (fun k hk => by rw [show k = 0 by omega]; rfl)
        obtain ⟨p1, p2⟩ := sh_run (f := fb bs fr) (i := i) (by omega) r h1 h2 h4
        have hmono2 := sh_F_mono (fb bs fr) (i + r) (n - (i + r))
        rw [show i + r + (n - (i + r)) = n by omega, p2, List.length_append] at hmono2
        have := t_msh84 (bs := bs) (fr := fr) (i := i) (r := r) (sm := if 4 ≤ r then 4 else r) (x1 := nI fr) (x2 := nI n) (Q := Q) l d g (by omega) h1 h2 rfl (L := sh_F (fb bs fr) i) (by omega) (if 4 ≤ r then 4 else r) 0 I (by omega) ai (by rw [List.replicate_zero, List.append_nil]; exact a) (fun I2 y1 y2 => ?_)
        · rw [Nat.add_zero] at this
          exact this
        · rw [← p2] at y1 ⊢
          rw [nI_add, Nat.add_assoc]
          refine ih (n - (i + r)) (by omega) (i + r) I2 (by omega) (ai.keepf y2 (by simp) (by simp)) y1 ?_ (fun I3 w1 w2 => q I3 w1 (zf_trans y2 w2))
          rcases h5 with h5 | h5 | h5
          · exact Or.inl h5
          · refine Or.inr (Or.inr (Or.inr ?_))
            rw [p1, h5]
          · refine Or.inr (Or.inr (Or.inl ?_))
            have := h4 (r - 1) (by omega)
            rw [show i + r - 1 = i + (r - 1) by omega, this]
            exact h5
theorem c_mshorten (l : Launch) (d : Nat) {I : zi_I} (g : g_Mod K RJ m) (hfr : fr + n ≤ bs.length) (hl : (sh_F (fb bs fr) n).length ≤ 71) (ai : a_In I m bs) :
    zi_C l (zx_rm d 0 0) M_Mod_shorten [.ref m, .int (nI fr), .int (nI n)] K RJ I (fun r I2 => r = some (.int (nI (sh_F (fb bs fr) n).length)) ∧ aA I2 (m + 5) (sh_F (fb bs fr) n) ∧ zf [m + 5] I I2) :=
  zi_of (by decide) (fun α => Nat.le_of_ble_eq_true rfl) (r_Mod_shorten_0 l d m _ _ (t_msh5 (bs := bs) (fr := fr) (n := n) l d g hfr hl n 0 I (by omega) ai (fun _ h => absurd h (Nat.not_lt_zero _)) (Or.inr (Or.inl rfl)) (fun I2 y1 y2 => ⟨rfl, y1, y2⟩)))
end MF
