/-! A block that is read. -/
def rb_bk (ch og : Nat) (u : Nat → Bool) (T G : Nat) (pk : List Nat) (lns : List (List Nat)) (sl co : List Nat) : bk_B := (ch, og, un_sh (fun i => co.getD i 0) co.length og, co, kf u 256, sl, T, G, fun g => pk.getD g 0, rd_tb lns)
def rb_le (og : Nat) (co : List Nat) : List Nat × Nat := le_go (fun i => (un_sh (fun i => co.getD i 0) co.length og).getD i 0) co.length 0 0 0 []
def rd_end (ch og : Nat) (u : Nat → Bool) (T G : Nat) (pk : List Nat) (lns : List (List Nat)) : rd_R (List Nat × List Nat × Nat) → rd_R (bk_B × List Nat)
  | .inl e => .inl e
  | .inr v => if og < v.1.2.1.length then (if (rb_le og v.1.2.1).2 = 4 then .inl (-13, v.1.2.2) else .inr ((rb_bk ch og u T G pk lns v.1.1 v.1.2.1, (rb_le og v.1.2.1).1), v.2)) else .inl (-12, v.1.2.2)
def rd_b6 (bs : List Nat) (lim ch og : Nat) (u : Nat → Bool) (T G : Nat) (pk : List Nat) : rd_R (List (List Nat)) → rd_R (bk_B × List Nat)
  | .inl e => .inl e
  | .inr v => rd_end ch og u T G pk v.1 (rd_syms bs v.1 (kf u 256).length lim (fun g => pk.getD g 0) (8 * G) 0 (kf u 256) [] 1 [] v.2)
def rd_b5 (bs : List Nat) (lim ch og : Nat) (u : Nat → Bool) (T G : Nat) : rd_R (List Nat) → rd_R (bk_B × List Nat)
  | .inl e => .inl e
  | .inr v => rd_b6 bs lim ch og u T G v.1 (rd_tabs bs ((kf u 256).length + 2) T [] v.2)
def rd_b4 (bs : List Nat) (lim ch og : Nat) (u : Nat → Bool) : rd_R (Nat × Nat) → rd_R (bk_B × List Nat)
  | .inl e => .inl e
  | .inr v => rd_b5 bs lim ch og u v.1.1 v.1.2 (rd_picks bs v.1.1 v.1.2 (List.range v.1.1) [] v.2)
def rd_b3 (bs : List Nat) (lim ch og : Nat) : rd_R (Nat → Bool) → rd_R (bk_B × List Nat)
  | .inl e => .inl e
  | .inr v => rd_b4 bs lim ch og v.1 (rd_TG bs v.2)
def rd_b2 (bs : List Nat) (lim : Nat) : rd_R (Nat × Nat) → rd_R (bk_B × List Nat)
  | .inl e => .inl e
  | .inr v => rd_b3 bs lim v.1.1 v.1.2 (rd_maps bs v.2)
def rd_block (bs : List Nat) (lim p : Nat) : rd_R (bk_B × List Nat) := rd_b2 bs lim (rd_nums bs p)
theorem rd_nums_ok {bs : List Nat} {p : Nat} {v : Nat × Nat} {q : Nat} (h : rd_nums bs p = .inr (v, q)) : v.1 < 65536 ∧ v.2 < 64 := by
  unfold rd_nums at h
  split at h
  · split at h
    · simp only [Sum.inr.injEq, Prod.mk.injEq] at h
      rw [← h.1]
      exact ⟨bt_num_lt bs p 16, bt_num_lt bs (p + 16) 6⟩
    · exact absurd h (by simp)
  · exact absurd h (by simp)
theorem rd_TG_ok {bs : List Nat} {p : Nat} {v : Nat × Nat} {q : Nat} (h : rd_TG bs p = .inr (v, q)) : 1 ≤ v.1 ∧ v.1 ≤ 4 ∧ 1 ≤ v.2 ∧ v.2 ≤ 63 := by
  unfold rd_TG at h
  cases e : rd_T bs p with
  | inl f =>
    rw [e] at h
    exact absurd h (by simp)
  | inr w =>
    obtain ⟨t, q1⟩ := w
    rw [e] at h
    simp only at h
    cases e2 : rd_G bs q1 with
    | inl f =>
      rw [e2] at h
      exact absurd h (by simp)
    | inr w =>
      obtain ⟨g, q2⟩ := w
      rw [e2] at h
      simp only [Sum.inr.injEq, Prod.mk.injEq] at h
      unfold rd_T at e
      unfold rd_G at e2
      split at e
      · split at e
        · exact absurd e (by simp)
        · simp only [Sum.inr.injEq, Prod.mk.injEq] at e
          split at e2
          · split at e2
            · exact absurd e2 (by simp)
            · simp only [Sum.inr.injEq, Prod.mk.injEq] at e2
              have := bt_num_lt bs q1 6
              rw [← h.1]
              refine ⟨?_, ?_, ?_, ?_⟩ <;> dsimp only <;> omega
          · exact absurd e2 (by simp)
      · exact absurd e (by simp)
theorem rd_maps_ok {bs : List Nat} {used : Nat} {v : Nat → Bool} {q : Nat} : ∀ (j i : Nat) (u : Nat → Bool) (p bg : Nat), rd_mapL bs used j i u p bg = .inr (v, q) → (kf v 256).length ≠ 0
  | 0, _, u, _, _, h => by
    unfold rd_mapL at h
    split at h
    · exact absurd h (by simp)
    · simp only [Sum.inr.injEq, Prod.mk.injEq] at h
      rw [← h.1]
      assumption
  | j + 1, i, u, p, bg, h => by
    unfold rd_mapL at h
    split at h
    · split at h
      · exact rd_maps_ok j _ _ _ _ h
      · exact absurd h (by simp)
    · exact rd_maps_ok j _ _ _ _ h
theorem rd_maps_pos {bs : List Nat} {p : Nat} {v : Nat → Bool} {q : Nat} (h : rd_maps bs p = .inr (v, q)) : 0 < (kf v 256).length := by
  unfold rd_maps at h
  split at h
  · have := rd_maps_ok 16 0 _ _ _ h
    omega
  · exact absurd h (by simp)
theorem rd_picks_ok {bs : List Nat} {T : Nat} {L : List Nat} {q : Nat} : ∀ (j : Nat) (xs out : List Nat) (p : Nat), rd_picks bs T j xs out p = .inr (L, q) → xs.length = T → (∀ v ∈ xs, v < T) → (∀ v ∈ out, v < T) → L.length = out.length + j ∧ ∀ v ∈ L, v < T
  | 0, xs, out, p, h, _, _, ho => by
    unfold rd_picks at h
    simp only [Sum.inr.injEq, Prod.mk.injEq] at h
    rw [← h.1]
    exact ⟨rfl, ho⟩
  | j + 1, xs, out, p, h, hx, hxt, ho => by
    unfold rd_picks at h
    cases e : rd_one bs p T 0 p with
    | inl f =>
      rw [e] at h
      exact absurd h (by simp)
    | inr w =>
      obtain ⟨k, q2⟩ := w
      rw [e] at h
      simp only at h
      have hk := rd_one_lt T 0 p e
      have hk2 : k < xs.length := by omega
      have := rd_picks_ok j (mv_to xs k) (out ++ [xs.getD k 0]) q2 h (by rw [mv_len hk2]; exact hx) (fun v hv => hxt v (mv_mem hk2 hv)) (fun v hv => by
        rcases List.mem_append.mp hv with hv | hv
        · exact ho v hv
        · rw [List.mem_singleton] at hv
          rw [hv]
          exact hxt _ (getD_mem hk2))
      rw [List.length_append, List.length_singleton] at this
      exact ⟨by omega, this.2⟩
theorem un_sh_lt {co : List Nat} {og : Nat} (h : og < co.length) (hc : ∀ x ∈ co, x < 256) : ∀ x ∈ un_sh (fun i => co.getD i 0) co.length og, x < 256 := fun x hx => by
  unfold un_sh at hx
  rw [List.mem_map] at hx
  obtain ⟨k, hk, rfl⟩ := hx
  exact hc _ (getD_mem (un_pos_lt h (k + 1)))
theorem rb_bk_ok {ch og T G lim : Nat} {u : Nat → Bool} {pk : List Nat} {lns : List (List Nat)} {sl co : List Nat} (h1 : ch < 65536) (h2 : og < 64) (h3 : 1 ≤ T) (h4 : T ≤ 4) (h5 : G ≤ 63) (h6 : pk.length = G) (h7 : ∀ v ∈ pk, v < T) (h8 : ∀ t, t < T → ∀ s, s < (kf u 256).length + 2 → 1 ≤ rd_tb lns t s ∧ rd_tb lns t s ≤ 12) (h9 : sl.length ≤ co.length + 1) (h10 : co.length ≤ lim) (h11 : lim ≤ 64) (h12 : ∀ x ∈ co, x < 256) (h13 : ∀ s ∈ sl, s < (kf u 256).length + 2) (h14 : sl.length ≤ 8 * G) (h15 : og < co.length) : bk_ok (rb_bk ch og u T G pk lns sl co) := by
  have hk := kf_le u 256
  refine ⟨h1, h2, ?_, ?_, un_sh_lt h15 h12, h12, hk, fun v hv => (kf_mem.mp hv).1, ?_, fun k hk => h13 _ (getD_mem hk), h3, h4, h5, h14, fun g hg => h7 _ (getD_mem (by have hg : g < G := hg; omega)), h8⟩
  · show (un_sh (fun i => co.getD i 0) co.length og).length ≤ 64
    rw [un_sh_len]
    omega
  · show co.length = (un_sh (fun i => co.getD i 0) co.length og).length
    rw [un_sh_len]
  · show sl.length ≤ 65
    omega
