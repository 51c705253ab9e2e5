/-! Marks are looked for; what is rescued. -/
theorem bt_num_add (bs : List Nat) (p a : Nat) : ∀ b, bt_num bs p (a + b) = bt_num bs p a * 2 ^ b + bt_num bs (p + a) b
  | 0 => by
    show bt_num bs p a = bt_num bs p a * 1 + 0
    omega
  | b + 1 => by
    have ih := bt_num_add bs p a b
    show 2 * bt_num bs p (a + b) + bt_at bs (p + (a + b)) = bt_num bs p a * 2 ^ (b + 1) + (2 * bt_num bs (p + a) b + bt_at bs (p + a + b))
    rw [ih, Nat.pow_succ, Nat.add_assoc p a b, Nat.mul_add, ← Nat.mul_assoc, Nat.mul_comm 2 (bt_num bs p a), Nat.mul_assoc (bt_num bs p a), Nat.mul_comm 2 (2 ^ b)]
    omega
theorem bt_num_mod (bs : List Nat) (p a : Nat) : bt_num bs p (a + 24) % 2 ^ 24 = bt_num bs (p + a) 24 := by
  rw [bt_num_add, Nat.add_comm, Nat.add_mul_mod_self_right, Nat.mod_eq_of_lt (bt_num_lt bs (p + a) 24)]
theorem bt_num_step (bs : List Nat) (p k : Nat) : (2 * (bt_num bs p k % 2 ^ 24) + bt_at bs (p + k)) % 2 ^ 24 = bt_num bs p (k + 1) % 2 ^ 24 := by
  show _ = (2 * bt_num bs p k + bt_at bs (p + k)) % 2 ^ 24
  omega
section FM
variable {K : zx_Kt} {RJ : zx_RJ} {br ro N fr : Nat} {bs : List Nat}
def fm_no (bs : List Nat) (fr to : Nat) : Prop := ∀ i, fr ≤ i → i < to → i + 24 ≤ 8 * bs.length → bt_num bs i 24 ≠ 3227993
theorem t_fm9 (l : Launch) (d : Nat) {Q : zi_Q} {x1 : Int32} (g : g_Bits K RJ br ro N) (hd : ro + 1 < br) :
    ∀ (j k : Nat) (I : zi_I), k + j = 3200 → a_Row I ro N bs → I br 1 = nI (fr + k) → fr + k ≤ 8 * bs.length → fm_no bs fr (fr + k - 23) →
      (∀ r I2, (∃ k', fr ≤ k' ∧ k' + 24 ≤ 8 * bs.length ∧ bt_num bs k' 24 = 3227993 ∧ fm_no bs fr k' ∧ r = some (.int 1) ∧ I2 br 1 = nI (k' + 24)) ∨ (fm_no bs fr (8 * bs.length) ∧ r = some (.int 0) ∧ ∃ p2, p2 < 2 ^ 20 ∧ I2 br 1 = nI p2) → zg br [1] [] I I2 → Q r I2) →
      zi_X l (zx_rm (d + 1) 0 0) M_BitReader_findMark K RJ Q 9 [(0, .ref br), (1, .int x1), (2, .int (nI (bt_num bs fr k % 2 ^ 24))), (3, .int (nI (k + 1)))] [] I := by
  intro j
  induction j with
  | zero =>
    intro k I hk a hp hp2 hno q
    obtain rfl : k = 3200 := by omega
    have h8 := bits_ok g a
    refine r_BitReader_findMark_9 l d br _ _ _ g.1 ⟨fun _ => q _ I (Or.inr ⟨fun i h1 h2 h3 => hno i h1 (by omega) h3, rfl, fr + 3200, by omega, hp⟩) zg_refl, fun c => absurd (by decide) c⟩
  | succ j ih =>
    intro k I hk a hp hp2 hno q
    have h8 := bits_ok g a
    have hb := bt_lt bs (fr + k)
    have hm := Nat.mod_lt (bt_num bs fr k) (show 0 < 2 ^ 24 by decide)
    have hm2 := Nat.mod_lt (bt_num bs fr (k + 1)) (show 0 < 2 ^ 24 by decide)
    have ev : (nI (bt_num bs fr k % 2 ^ 24) <<< ((1 : Int32) &&& 31) ||| nI (bt_at bs (fr + k))) &&& 16777215 = nI (bt_num bs fr (k + 1) % 2 ^ 24) := by
      rw [zb_in (by omega) hb, show (16777215 : Int32) = nI (2 ^ 24 - 1) from rfl, nI_mask, bt_num_step]
    refine r_BitReader_findMark_9 l d br _ _ _ g.1 ⟨fun c => ?_, fun _ => zi_mono (c_takeBit l d g a hp (by omega)) ?_⟩
    · rw [show (3200 : Int32) = nI 3200 from rfl, nI_ltI (by omega) (by omega)] at c
      omega
    · rintro r I2 (⟨h1, rfl, rfl⟩ | ⟨h1, rfl, rfl⟩)
      · have z : zg br [1] [] I (zx_u2 I br 1 (nI (fr + k + 1))) := zg_fld (by simp)
        refine ⟨_, rfl, fun _ => ?_, fun x => absurd (nI_pos' (by omega)) x⟩
        rw [ev, nI_1, show (3227993 : Int32) = nI 3227993 from rfl, nI_eq (by omega) (by omega), show (24 : Int32) = nI 24 from rfl, nI_ltI (by omega) (by omega)]
        have next : fm_no bs fr (fr + (k + 1) - 23) → zi_X l (zx_rm (d + 1) 0 0) M_BitReader_findMark K RJ Q 9 [(0, .ref br), (1, .int x1), (2, .int (nI (bt_num bs fr (k + 1) % 2 ^ 24))), (3, .int (nI (k + 1 + 1)))] [] (zx_u2 I br 1 (nI (fr + k + 1))) := fun h => ih (k + 1) _ (by omega) (a.keep z.2 (by simp; omega) (by simp; omega)) (by rw [zx_u2_s, Nat.add_assoc]) (by omega) h (fun r I3 y1 y2 => q r I3 y1 (zg_trans z y2))
        refine ⟨fun x => next (fun i i1 i2 i3 => ?_), fun x => ⟨fun y => next (fun i i1 i2 i3 => hno i i1 (by omega) i3), fun y => ?_⟩⟩
        · by_cases e : i = fr + (k + 1) - 24
          · have ek : k + 1 = (k + 1 - 24) + 24 := by omega
            rw [ek, bt_num_mod] at x
            rw [e, show fr + (k + 1) - 24 = fr + (k + 1 - 24) by omega]
            exact x
          · exact hno i i1 (by omega) i3
        · have ek : k + 1 = (k + 1 - 24) + 24 := by omega
          rw [ek, bt_num_mod] at x
          exact q _ _ (Or.inl ⟨fr + (k + 1 - 24), by omega, by omega, x, fun i i1 i2 i3 => hno i i1 (by omega) i3, rfl, by rw [zx_u2_s, show fr + (k + 1 - 24) + 24 = fr + k + 1 by omega]⟩) z
      · refine ⟨_, rfl, fun x => absurd x m2_neg, fun _ => q _ I2 (Or.inr ⟨fun i i1 i2 i3 => hno i i1 (by omega) i3, rfl, fr + k, by omega, hp⟩) zg_refl⟩
theorem c_findMark (l : Launch) (d : Nat) {I : zi_I} (g : g_Bits K RJ br ro N) (hd : ro + 1 < br) (hf : fr ≤ 8 * bs.length) (a : a_Row I ro N bs) :
    zi_C l (zx_rm (d + 1) 0 0) M_BitReader_findMark [.ref br, .int (nI fr)] K RJ I (fun r I2 => ((∃ k', fr ≤ k' ∧ k' + 24 ≤ 8 * bs.length ∧ bt_num bs k' 24 = 3227993 ∧ fm_no bs fr k' ∧ r = some (.int 1) ∧ I2 br 1 = nI (k' + 24)) ∨ (fm_no bs fr (8 * bs.length) ∧ r = some (.int 0) ∧ ∃ p2, p2 < 2 ^ 20 ∧ I2 br 1 = nI p2)) ∧ zg br [1] [] I I2) := by
  refine zi_of (by decide) (fun α => Nat.le_of_ble_eq_true rfl) (r_BitReader_findMark_0 l d br _ g.1 (zi_mono (c_goTo l d g.1) ?_))
  rintro r I2 ⟨rfl, rfl⟩
  have z : zg br [1] [] I (zx_u2 I br 1 (nI fr)) := zg_fld (by simp)
  exact ⟨rfl, t_fm9 (bs := bs) (fr := fr) l d g hd 3200 0 _ (by omega) (a.keep z.2 (by simp; omega) (by simp; omega)) zx_u2_s hf (fun i h1 h2 => absurd h2 (by omega)) (fun r I3 y1 y2 => ⟨y1, zg_trans z y2⟩)⟩
end FM
/-- what is rescued from bit k on -/
def rs_ok (fs : List Nat) (v : bk_B × List Nat) : Bool := decide (¬ 2000 < fs.length + v.2.length) && decide (cr_fn (fun k => v.2.getD k 0) 0 v.2.length 65535 = v.1.ch)
def rs_go (bs : List Nat) : Nat → Nat → List Nat → Nat → bk_B → st_V
  | 0, _, fs, n, B => (fs, n, B)
  | j + 1, k, fs, n, B => if k + 24 ≤ 8 * bs.length then (if bt_num bs k 24 = 3227993 then (match rd_block bs 64 (k + 24) with
      | .inl _ => rs_go bs j (k + 1) fs n B
      | .inr v => if rs_ok fs v.1 = true then rs_go bs j v.2 (fs ++ v.1.2) (n + 1) v.1.1 else rs_go bs j (k + 1) fs n B) else rs_go bs j (k + 1) fs n B) else (fs, n, B)
theorem rs_s (bs : List Nat) (j k : Nat) (fs : List Nat) (n : Nat) (B : bk_B) : rs_go bs (j + 1) k fs n B = if k + 24 ≤ 8 * bs.length then (if bt_num bs k 24 = 3227993 then (match rd_block bs 64 (k + 24) with
      | .inl _ => rs_go bs j (k + 1) fs n B
      | .inr v => if rs_ok fs v.1 = true then rs_go bs j v.2 (fs ++ v.1.2) (n + 1) v.1.1 else rs_go bs j (k + 1) fs n B) else rs_go bs j (k + 1) fs n B) else (fs, n, B) := rfl
theorem rs_fuel {bs : List Nat} : ∀ (j j' k : Nat) (fs : List Nat) (n : Nat) (B : bk_B), 8 * bs.length < k + j + 24 → 8 * bs.length < k + j' + 24 → rs_go bs j k fs n B = rs_go bs j' k fs n B
  | 0, 0, _, _, _, _, _, _ => rfl
  | 0, j' + 1, k, fs, n, B, h, _ => by
    rw [rs_s, if_neg (by omega)]
    rfl
  | j + 1, 0, k, fs, n, B, _, h => by
    rw [rs_s, if_neg (by omega)]
    rfl
  | j + 1, j' + 1, k, fs, n, B, h, h' => by
    rw [rs_s, rs_s]
    have i1 := rs_fuel (bs := bs) j j' (k + 1) fs n B (by omega) (by omega)
    by_cases c1 : k + 24 ≤ 8 * bs.length
    · rw [if_pos c1, if_pos c1]
      by_cases c2 : bt_num bs k 24 = 3227993
      · rw [if_pos c2, if_pos c2]
        cases e : rd_block bs 64 (k + 24) with
        | inl f => exact i1
        | inr v =>
          have hge := rd_block_ge (v := v.1) (q := v.2) e
          have i2 := rs_fuel (bs := bs) j j' v.2 (fs ++ v.1.2) (n + 1) v.1.1 (by omega) (by omega)
          simp only
          rw [i1, i2]
      · rw [if_neg c2, if_neg c2]
        exact i1
    · rw [if_neg c1, if_neg c1]
/-- bits where no mark begins are gone over -/
theorem rs_skip {bs : List Nat} {fs : List Nat} {n : Nat} {B : bk_B} : ∀ (i j k : Nat), fm_no bs k (k + i) → 8 * bs.length < k + j + 24 → k + i + 24 ≤ 8 * bs.length + 1 → rs_go bs j k fs n B = rs_go bs j (k + i) fs n B
  | 0, _, _, _, _, _ => rfl
  | i + 1, j, k, h, hj, hk => by
    cases j with
    | zero => omega
    | succ j =>
      have h0 := h k (Nat.le_refl _) (by omega) (by omega)
      have ih := rs_skip (fs := fs) (n := n) (B := B) i j (k + 1) (fun x h1 h2 h3 => h x (by omega) (by omega) h3) (by omega) (by omega)
      rw [rs_s, if_pos (by omega), if_neg h0, ih, show k + 1 + i = k + (i + 1) by omega]
      exact rs_fuel _ _ _ _ _ _ (by omega) (by omega)
theorem rs_none {bs : List Nat} {fs : List Nat} {n : Nat} {B : bk_B} : ∀ (j k : Nat), fm_no bs k (8 * bs.length) → rs_go bs j k fs n B = (fs, n, B)
  | 0, _, _ => rfl
  | j + 1, k, h => by
    rw [rs_s]
    by_cases c1 : k + 24 ≤ 8 * bs.length
    · rw [if_pos c1, if_neg (h k (Nat.le_refl _) (by omega) c1)]
      exact rs_none j (k + 1) (fun x h1 h2 h3 => h x (by omega) h2 h3)
    · rw [if_neg c1]
