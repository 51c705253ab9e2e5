/-! Streams: what is read goes on; a stream, all streams. -/
section GE
variable {bs : List Nat}
theorem rd_mapL_ge {used : Nat} {v : Nat → Bool} {q : Nat} : ∀ (j i : Nat) (u : Nat → Bool) (p bg : Nat), rd_mapL bs used j i u p bg = .inr (v, q) → p ≤ q
  | 0, _, u, p, _, h => by
    unfold rd_mapL at h
    split at h
    · exact absurd h (by simp)
    · simp only [Sum.inr.injEq, Prod.mk.injEq] at h
      omega
  | j + 1, i, u, p, bg, h => by
    unfold rd_mapL at h
    split at h
    · split at h
      · have := rd_mapL_ge j _ _ _ _ h
        omega
      · exact absurd h (by simp)
    · exact rd_mapL_ge j _ _ _ _ h
theorem rd_maps_ge {p : Nat} {v : Nat → Bool} {q : Nat} (h : rd_maps bs p = .inr (v, q)) : p ≤ q := by
  unfold rd_maps at h
  split at h
  · have := rd_mapL_ge 16 0 _ _ _ h
    omega
  · exact absurd h (by simp)
theorem rd_TG_ge {p : Nat} {v : Nat × Nat} {q : Nat} (h : rd_TG bs p = .inr (v, q)) : p ≤ q := by
  unfold rd_TG at h
  cases e : rd_T bs p with
  | inl f =>
    rw [e] at h
    exact absurd h (by simp)
  | inr w =>
    obtain ⟨t, q1⟩ := w
    rw [e] at h
    simp only at h
    cases e2 : rd_G bs q1 with
    | inl f =>
      rw [e2] at h
      exact absurd h (by simp)
    | inr w =>
      obtain ⟨g, q2⟩ := w
      rw [e2] at h
      simp only [Sum.inr.injEq, Prod.mk.injEq] at h
      unfold rd_T at e
      unfold rd_G at e2
      split at e
      · split at e
        · exact absurd e (by simp)
        · simp only [Sum.inr.injEq, Prod.mk.injEq] at e
          split at e2
          · split at e2
            · exact absurd e2 (by simp)
            · simp only [Sum.inr.injEq, Prod.mk.injEq] at e2
              omega
          · exact absurd e2 (by simp)
      · exact absurd e (by simp)
theorem rd_one_ge {bg v q : Nat} : ∀ j k p, rd_one bs bg j k p = .inr (v, q) → p ≤ q
  | 0, _, _, h => by
    unfold rd_one at h
    exact absurd h (by simp)
  | j + 1, k, p, h => by
    unfold rd_one at h
    split at h
    · split at h
      · have := rd_one_ge j _ _ h
        omega
      · simp only [Sum.inr.injEq, Prod.mk.injEq] at h
        omega
    · exact absurd h (by simp)
theorem rd_picks_ge {T : Nat} {L : List Nat} {q : Nat} : ∀ (j : Nat) (xs out : List Nat) (p : Nat), rd_picks bs T j xs out p = .inr (L, q) → p ≤ q
  | 0, xs, out, p, h => by
    unfold rd_picks at h
    simp only [Sum.inr.injEq, Prod.mk.injEq] at h
    omega
  | j + 1, xs, out, p, h => by
    unfold rd_picks at h
    cases e : rd_one bs p T 0 p with
    | inl f =>
      rw [e] at h
      exact absurd h (by simp)
    | inr w =>
      obtain ⟨k, q2⟩ := w
      rw [e] at h
      simp only at h
      have h1 := rd_one_ge T 0 p e
      have h2 := rd_picks_ge j _ _ _ h
      omega
theorem rd_ln_ge {v q : Nat} : ∀ j len p, rd_ln bs j len p = .inr (v, q) → p ≤ q
  | 0, _, _, h => by
    unfold rd_ln at h
    exact absurd h (by simp)
  | j + 1, len, p, h => by
    unfold rd_ln at h
    split at h
    · split at h
      · split at h
        · split at h
          · split at h
            · have := rd_ln_ge j _ _ h
              omega
            · exact absurd h (by simp)
          · split at h
            · have := rd_ln_ge j _ _ h
              omega
            · exact absurd h (by simp)
        · exact absurd h (by simp)
      · simp only [Sum.inr.injEq, Prod.mk.injEq] at h
        omega
    · exact absurd h (by simp)
theorem rd_lens_ge {L : List Nat} {q : Nat} : ∀ (j len : Nat) (out : List Nat) (p : Nat), rd_lens bs j len out p = .inr (L, q) → p ≤ q
  | 0, _, out, p, h => by
    unfold rd_lens at h
    simp only [Sum.inr.injEq, Prod.mk.injEq] at h
    omega
  | j + 1, len, out, p, h => by
    unfold rd_lens at h
    cases e : rd_ln bs 3200 len p with
    | inl f =>
      rw [e] at h
      exact absurd h (by simp)
    | inr w =>
      obtain ⟨k, q2⟩ := w
      rw [e] at h
      simp only at h
      have h1 := rd_ln_ge 3200 len p e
      have h2 := rd_lens_ge j _ _ _ h
      omega
theorem rd_tab_ge {n p : Nat} {L : List Nat} {q : Nat} (h : rd_tab bs n p = .inr (L, q)) : p ≤ q := by
  unfold rd_tab at h
  split at h
  · split at h
    · have := rd_lens_ge n _ _ _ h
      omega
    · exact absurd h (by simp)
  · exact absurd h (by simp)
theorem rd_tabs_ge {n : Nat} {L : List (List Nat)} {q : Nat} : ∀ (j : Nat) (out : List (List Nat)) (p : Nat), rd_tabs bs n j out p = .inr (L, q) → p ≤ q
  | 0, out, p, h => by
    unfold rd_tabs at h
    simp only [Sum.inr.injEq, Prod.mk.injEq] at h
    omega
  | j + 1, out, p, h => by
    unfold rd_tabs at h
    cases e : rd_tab bs n p with
    | inl f =>
      rw [e] at h
      exact absurd h (by simp)
    | inr w =>
      obtain ⟨k, q2⟩ := w
      rw [e] at h
      simp only at h
      have h1 := rd_tab_ge e
      have h2 := rd_tabs_ge j _ _ h
      omega
theorem rd_sym_ge {ln : Nat → Nat} {n bg v q : Nat} : ∀ j b len p, rd_sym bs ln n bg j b len p = .inr (v, q) → p ≤ q
  | 0, _, _, _, h => by
    unfold rd_sym at h
    exact absurd h (by simp)
  | j + 1, b, len, p, h => by
    unfold rd_sym at h
    split at h
    · split at h
      · have := rd_sym_ge j _ _ _ h
        omega
      · simp only [Sum.inr.injEq, Prod.mk.injEq] at h
        omega
    · exact absurd h (by simp)
theorem rd_syms_ge {lns : List (List Nat)} {kc lim : Nat} {pk : Nat → Nat} {v : List Nat × List Nat × Nat} {q : Nat} : ∀ (j i : Nat) (xs co : List Nat) (dt : Nat) (sl : List Nat) (p : Nat), rd_syms bs lns kc lim pk j i xs co dt sl p = .inr (v, q) → p ≤ q
  | 0, i, xs, co, dt, sl, p, h => by
    unfold rd_syms at h
    exact absurd h (by simp)
  | j + 1, i, xs, co, dt, sl, p, h => by
    rw [rd_syms_s] at h
    cases e : rd_sym bs (rd_tb lns (pk (i / 8))) (kc + 2) p 12 0 0 p with
    | inl f =>
      rw [e] at h
      exact absurd h (by simp)
    | inr w =>
      obtain ⟨s, q'⟩ := w
      rw [e] at h
      have h1 := rd_sym_ge 12 0 0 p e
      simp only at h
      split at h
      · simp only [Sum.inr.injEq, Prod.mk.injEq] at h
        omega
      · split at h
        · split at h
          · have := rd_syms_ge j _ _ _ _ _ _ h
            omega
          · exact absurd h (by simp)
        · split at h
          · have := rd_syms_ge j _ _ _ _ _ _ h
            omega
          · exact absurd h (by simp)
theorem rd_block_ge {lim p : Nat} {v : bk_B × List Nat} {q : Nat} (h : rd_block bs lim p = .inr (v, q)) : p ≤ q := by
  unfold rd_block at h
  cases e1 : rd_nums bs p with
  | inl f => rw [e1] at h; exact absurd h (by simp [rd_b2])
  | inr w1 =>
  obtain ⟨⟨ch, og⟩, p1⟩ := w1
  have h1 : p ≤ p1 := by
    unfold rd_nums at e1
    split at e1
    · split at e1
      · simp only [Sum.inr.injEq, Prod.mk.injEq] at e1
        omega
      · exact absurd e1 (by simp)
    · exact absurd e1 (by simp)
  rw [e1] at h
  change rd_b3 bs lim ch og (rd_maps bs p1) = _ at h
  cases e2 : rd_maps bs p1 with
  | inl f => rw [e2] at h; exact absurd h (by simp [rd_b3])
  | inr w2 =>
  obtain ⟨u, p2⟩ := w2
  have h2 := rd_maps_ge e2
  rw [e2] at h
  change rd_b4 bs lim ch og u (rd_TG bs p2) = _ at h
  cases e3 : rd_TG bs p2 with
  | inl f => rw [e3] at h; exact absurd h (by simp [rd_b4])
  | inr w3 =>
  obtain ⟨⟨T, G⟩, p3⟩ := w3
  have h3 := rd_TG_ge e3
  rw [e3] at h
  change rd_b5 bs lim ch og u T G (rd_picks bs T G (List.range T) [] p3) = _ at h
  cases e4 : rd_picks bs T G (List.range T) [] p3 with
  | inl f => rw [e4] at h; exact absurd h (by simp [rd_b5])
  | inr w4 =>
  obtain ⟨pk, p4⟩ := w4
  have h4 := rd_picks_ge _ _ _ _ e4
  rw [e4] at h
  change rd_b6 bs lim ch og u T G pk (rd_tabs bs ((kf u 256).length + 2) T [] p4) = _ at h
  cases e5 : rd_tabs bs ((kf u 256).length + 2) T [] p4 with
  | inl f => rw [e5] at h; exact absurd h (by simp [rd_b6])
  | inr w5 =>
  obtain ⟨lns, p5⟩ := w5
  have h5 := rd_tabs_ge _ _ _ e5
  rw [e5] at h
  change rd_end ch og u T G pk lns (rd_syms bs lns (kf u 256).length lim (fun g => pk.getD g 0) (8 * G) 0 (kf u 256) [] 1 [] p5) = _ at h
  cases e6 : rd_syms bs lns (kf u 256).length lim (fun g => pk.getD g 0) (8 * G) 0 (kf u 256) [] 1 [] p5 with
  | inl f => rw [e6] at h; exact absurd h (by simp [rd_end])
  | inr w6 =>
  obtain ⟨⟨sl, co, en⟩, p6⟩ := w6
  have h6 := rd_syms_ge _ _ _ _ _ _ _ e6
  rw [e6] at h
  change (if og < co.length then (if (rb_le og co).2 = 4 then (Sum.inl (-13, en) : rd_R (bk_B × List Nat)) else Sum.inr ((rb_bk ch og u T G pk lns sl co, (rb_le og co).1), p6)) else Sum.inl (-12, en)) = _ at h
  split at h
  · split at h
    · exact absurd h (by simp)
    · simp only [Sum.inr.injEq, Prod.mk.injEq] at h
      omega
  · exact absurd h (by simp)
end GE
abbrev st_V : Type := List Nat × Nat × bk_B
/-- the blocks of a stream and its end; 1: too many bytes -/
def rd_str (bs : List Nat) (lv : Nat) : Nat → Nat → List Nat → Nat → bk_B → Nat → rd_R st_V
  | 0, _, _, _, _, p => .inl (-4, p)
  | j + 1, tot, fs, n, B, p =>
    if p + 24 ≤ 8 * bs.length then
      (if bt_num bs p 24 = 1536581 then (if p + 24 + 16 ≤ 8 * bs.length then (if bt_num bs (p + 24) 16 = tot then .inr ((fs, n, B), (p + 24 + 16 + 7) / 8 * 8) else .inl (-15, p + 24)) else .inl (-2, p + 24))
      else if bt_num bs p 24 = 3227993 then
        (match rd_block bs (8 * lv) (p + 24) with
        | .inl e => .inl e
        | .inr v => if 2000 < fs.length + v.1.2.length then .inl (1, 0) else if cr_fn (fun k => v.1.2.getD k 0) 0 v.1.2.length 65535 = v.1.1.ch then rd_str bs lv j (tt_1 tot v.1.1.ch) (fs ++ v.1.2) (n + 1) v.1.1 v.2 else .inl (-14, p + 24))
      else .inl (-4, p))
    else .inl (-2, p)
theorem rd_str_s (bs : List Nat) (lv j tot : Nat) (fs : List Nat) (n : Nat) (B : bk_B) (p : Nat) : rd_str bs lv (j + 1) tot fs n B p =
    if p + 24 ≤ 8 * bs.length then
      (if bt_num bs p 24 = 1536581 then (if p + 24 + 16 ≤ 8 * bs.length then (if bt_num bs (p + 24) 16 = tot then .inr ((fs, n, B), (p + 24 + 16 + 7) / 8 * 8) else .inl (-15, p + 24)) else .inl (-2, p + 24))
      else if bt_num bs p 24 = 3227993 then
        (match rd_block bs (8 * lv) (p + 24) with
        | .inl e => .inl e
        | .inr v => if 2000 < fs.length + v.1.2.length then .inl (1, 0) else if cr_fn (fun k => v.1.2.getD k 0) 0 v.1.2.length 65535 = v.1.1.ch then rd_str bs lv j (tt_1 tot v.1.1.ch) (fs ++ v.1.2) (n + 1) v.1.1 v.2 else .inl (-14, p + 24))
      else .inl (-4, p))
    else .inl (-2, p) := rfl
def rd_head (bs : List Nat) (p : Nat) : rd_R Nat := if p + 16 ≤ 8 * bs.length then (if bt_num bs p 16 = 21314 then (if p + 16 + 8 ≤ 8 * bs.length then (if bt_num bs (p + 16) 8 = 0 ∨ 8 < bt_num bs (p + 16) 8 then .inl (-3, p + 16) else .inr (bt_num bs (p + 16) 8, p + 16 + 8)) else .inl (-2, p + 16)) else .inl (-3, p)) else .inl (-2, p)
def rd_stream (bs : List Nat) (fs : List Nat) (n : Nat) (B : bk_B) (p : Nat) : rd_R st_V := match rd_head bs p with
  | .inl e => .inl e
  | .inr v => rd_str bs v.1 3200 0 fs n B v.2
theorem rd_head_ok {bs : List Nat} {p : Nat} {v q : Nat} (h : rd_head bs p = .inr (v, q)) : 1 ≤ v ∧ v ≤ 8 ∧ q = p + 24 ∧ q ≤ 8 * bs.length := by
  unfold rd_head at h
  split at h
  · split at h
    · split at h
      · split at h
        · exact absurd h (by simp)
        · simp only [Sum.inr.injEq, Prod.mk.injEq] at h
          omega
      · exact absurd h (by simp)
    · exact absurd h (by simp)
  · exact absurd h (by simp)
