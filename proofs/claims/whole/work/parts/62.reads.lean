/-! How a block is read: what is read, or the fault and its place. -/
abbrev rd_R (α : Type) : Type := (Int32 × Nat) ⊕ (α × Nat)
def rd_nums (bs : List Nat) (p : Nat) : rd_R (Nat × Nat) := if p + 16 ≤ 8 * bs.length then (if p + 16 + 6 ≤ 8 * bs.length then .inr ((bt_num bs p 16, bt_num bs (p + 16) 6), p + 16 + 6) else .inl (-2, p + 16)) else .inl (-2, p)
/-- the map of the bytes 16 i .. 16 i + 15 -/
def mp_set (u : Nat → Bool) (i v b : Nat) : Bool := if b / 16 = i then decide (v / 2 ^ (15 - b % 16) % 2 = 1) else u b
def rd_mapL (bs : List Nat) (used : Nat) : Nat → Nat → (Nat → Bool) → Nat → Nat → rd_R (Nat → Bool)
  | 0, _, u, p, bg => if (kf u 256).length = 0 then .inl (-5, bg) else .inr (u, p)
  | j + 1, i, u, p, bg => if used / 2 ^ (15 - i) % 2 = 1 then (if p + 16 ≤ 8 * bs.length then rd_mapL bs used j (i + 1) (mp_set u i (bt_num bs p 16)) (p + 16) p else .inl (-2, p)) else rd_mapL bs used j (i + 1) u p bg
def rd_maps (bs : List Nat) (p : Nat) : rd_R (Nat → Bool) := if p + 16 ≤ 8 * bs.length then rd_mapL bs (bt_num bs p 16) 16 0 (fun _ => false) (p + 16) p else .inl (-2, p)
def rd_T (bs : List Nat) (p : Nat) : rd_R Nat := if p + 3 ≤ 8 * bs.length then (if bt_num bs p 3 < 1 ∨ 4 < bt_num bs p 3 then .inl (-6, p) else .inr (bt_num bs p 3, p + 3)) else .inl (-2, p)
def rd_G (bs : List Nat) (p : Nat) : rd_R Nat := if p + 6 ≤ 8 * bs.length then (if bt_num bs p 6 = 0 then .inl (-7, p) else .inr (bt_num bs p 6, p + 6)) else .inl (-2, p)
/-- a pick: how many ones, fewer than the tables -/
def rd_one (bs : List Nat) (bg : Nat) : Nat → Nat → Nat → rd_R Nat
  | 0, _, _ => .inl (-8, bg)
  | j + 1, k, p => if p < 8 * bs.length then (if bt_at bs p = 1 then rd_one bs bg j (k + 1) (p + 1) else .inr (k, p + 1)) else .inl (-2, bg)
def rd_picks (bs : List Nat) (T : Nat) : Nat → List Nat → List Nat → Nat → rd_R (List Nat)
  | 0, _, out, p => .inr (out, p)
  | j + 1, xs, out, p => match rd_one bs p T 0 p with
    | .inl e => .inl e
    | .inr (k, q) => rd_picks bs T j (mv_to xs k) (out ++ [xs.getD k 0]) q
/-- a length, by the one before -/
def rd_ln (bs : List Nat) : Nat → Nat → Nat → rd_R Nat
  | 0, _, p => .inl (-2, p)
  | j + 1, len, p => if p < 8 * bs.length then (if bt_at bs p = 1 then (if p + 1 < 8 * bs.length then (if bt_at bs (p + 1) = 0 then (if len + 1 ≤ 12 then rd_ln bs j (len + 1) (p + 2) else .inl (-9, p)) else (if 1 ≤ len - 1 then rd_ln bs j (len - 1) (p + 2) else .inl (-9, p))) else .inl (-2, p)) else .inr (len, p + 1)) else .inl (-2, p)
def rd_lens (bs : List Nat) : Nat → Nat → List Nat → Nat → rd_R (List Nat)
  | 0, _, out, p => .inr (out, p)
  | j + 1, len, out, p => match rd_ln bs 3200 len p with
    | .inl e => .inl e
    | .inr (v, q) => rd_lens bs j v (out ++ [v]) q
def rd_tab (bs : List Nat) (n p : Nat) : rd_R (List Nat) := if p + 5 ≤ 8 * bs.length then (if 1 ≤ bt_num bs p 5 ∧ bt_num bs p 5 ≤ 12 then rd_lens bs n (bt_num bs p 5) [] (p + 5) else .inl (-9, p)) else .inl (-2, p)
def rd_tabs (bs : List Nat) (n : Nat) : Nat → List (List Nat) → Nat → rd_R (List (List Nat))
  | 0, out, p => .inr (out, p)
  | j + 1, out, p => match rd_tab bs n p with
    | .inl e => .inl e
    | .inr (v, q) => rd_tabs bs n j (out ++ [v]) q
/-- a symbol, bit by bit -/
def rd_sym (bs : List Nat) (ln : Nat → Nat) (n bg : Nat) : Nat → Nat → Nat → Nat → rd_R Nat
  | 0, _, _, _ => .inl (-10, bg)
  | j + 1, b, len, p => if p < 8 * bs.length then (if cd_d ln n (2 * b + bt_at bs p) (len + 1) n = 0 then rd_sym bs ln n bg j (2 * b + bt_at bs p) (len + 1) (p + 1) else .inr (cd_d ln n (2 * b + bt_at bs p) (len + 1) n - 1, p + 1)) else .inl (-2, bg)
/-- what a table is, out of the tables read -/
def rd_tb (lns : List (List Nat)) (t s : Nat) : Nat := (lns.getD t []).getD s 0
/-- symbols up to the END: symbols, last column, where the END begins -/
def rd_syms (bs : List Nat) (lns : List (List Nat)) (kc lim : Nat) (pk : Nat → Nat) : Nat → Nat → List Nat → List Nat → Nat → List Nat → Nat → rd_R (List Nat × List Nat × Nat)
  | 0, _, _, _, _, _, p => .inl (-11, p)
  | j + 1, i, xs, co, dt, sl, p => match rd_sym bs (rd_tb lns (pk (i / 8))) (kc + 2) p 12 0 0 p with
    | .inl e => .inl e
    | .inr (s, q) => if s = kc + 1 then .inr ((sl ++ [s], co, p), q) else if s < 2 then (if co.length + dt * (s + 1) ≤ lim then rd_syms bs lns kc lim pk j (i + 1) xs (co ++ List.replicate (dt * (s + 1)) (xs.getD 0 0)) (2 * dt) (sl ++ [s]) q else .inl (-11, p)) else (if co.length + 1 ≤ lim then rd_syms bs lns kc lim pk j (i + 1) (mv_to xs (s - 1)) (co ++ [xs.getD (s - 1) 0]) 1 (sl ++ [s]) q else .inl (-11, p))
/-- pieces are lengthened: the bytes, and how many alike stand at the end -/
def le_go (f : Nat → Nat) : Nat → Nat → Nat → Nat → List Nat → List Nat × Nat
  | 0, _, run, _, out => (out, run)
  | j + 1, i, run, v, out => if run = 4 then le_go f j (i + 1) 0 v (out ++ List.replicate (f i) v) else le_go f j (i + 1) (if 0 < run ∧ f i = v then run + 1 else 1) (f i) (out ++ [f i])
/-- the place of the i-th byte of the last column among the sorted ones -/
def un_b (c : Nat → Nat) (i j : Nat) : Bool := decide (c j < c i ∨ (c j = c i ∧ j < i))
def un_P (c : Nat → Nat) (i : Nat) : Nat → Nat
  | 0 => 0
  | j + 1 => un_P c i j + (if un_b c i j = true then 1 else 0)
theorem kf_skip {u : Nat → Bool} {a : Nat} : ∀ j, (∀ b, a ≤ b → b < a + j → u b = false) → kf u (a + j) = kf u a
  | 0, _ => rfl
  | j + 1, h => by
    have ih := kf_skip j (fun b h1 h2 => h b h1 (by omega))
    rw [← Nat.add_assoc, kf_s, h (a + j) (by omega) (by omega), if_neg (by decide), ih]
theorem mp_set_in {u : Nat → Bool} {i v k : Nat} (hk : k < 16) : mp_set u i v (16 * i + k) = decide (v / 2 ^ (15 - k) % 2 = 1) := by
  unfold mp_set
  rw [if_pos (by omega), show (16 * i + k) % 16 = k by omega]
theorem mp_set_out {u : Nat → Bool} {i v b : Nat} (h : b / 16 ≠ i) : mp_set u i v b = u b := by
  unfold mp_set
  rw [if_neg h]
theorem and_pow (v k : Nat) : (v &&& 2 ^ k = 0) ↔ ¬ v / 2 ^ k % 2 = 1 := by
  have h : v.testBit k = decide (v / 2 ^ k % 2 = 1) := Nat.testBit_eq_decide_div_mod_eq
  constructor
  · intro e h2
    have h3 := congrArg (fun x => x.testBit k) e
    simp only [Nat.testBit_and, Nat.testBit_two_pow_self, Nat.zero_testBit, Bool.and_true] at h3
    rw [h, decide_eq_false_iff_not] at h3
    exact h3 h2
  · intro h2
    apply Nat.eq_of_testBit_eq
    intro i
    simp only [Nat.testBit_and, Nat.testBit_two_pow, Nat.zero_testBit]
    by_cases e : k = i
    · subst e
      rw [h]
      simp [h2]
    · simp [e]
