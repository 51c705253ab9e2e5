/-! The reference writes bits; its lists. -/
/-- of cell m only the fields F may have changed, else only the cells S -/
def zg (m : Nat) (F S : List Nat) (I I2 : zi_I) : Prop := (∀ j, j ∉ F → I2 m j = I m j) ∧ zf (m :: S) I I2
theorem zg_refl {m : Nat} {F S : List Nat} {I : zi_I} : zg m F S I I := ⟨fun _ _ => rfl, zf_refl⟩
theorem zg_trans {m : Nat} {F S : List Nat} {I I2 I3 : zi_I} (h1 : zg m F S I I2) (h2 : zg m F S I2 I3) : zg m F S I I3 := ⟨fun j hj => (h2.1 j hj).trans (h1.1 j hj), zf_trans h1.2 h2.2⟩
theorem zg_mono {m : Nat} {F S F2 S2 : List Nat} {I I2 : zi_I} (h : zg m F S I I2) (hf : ∀ q ∈ F, q ∈ F2) (hs : ∀ q ∈ S, q ∈ S2) : zg m F2 S2 I I2 := ⟨fun j hj => h.1 j (fun z => hj (hf j z)), zf_mono h.2 (fun q hq => by
  rcases List.mem_cons.mp hq with rfl | h
  · exact List.mem_cons_self
  · exact List.mem_cons_of_mem _ (hs q h))⟩
theorem zg_fld {m : Nat} {F S : List Nat} {I : zi_I} {j : Nat} {v : Int32} (hj : j ∈ F) : zg m F S I (zx_u2 I m j v) := ⟨fun i hi => zx_u2_k (fun e => hi (e ▸ hj)), zf_u2 List.mem_cons_self⟩
theorem zg_arr {m : Nat} {F S : List Nat} {I : zi_I} {q j : Nat} {v : Int32} (hq : q ∈ S) (hne : q ≠ m) : zg m F S I (zx_u2 I q j v) := ⟨fun i _ => zx_u2_ne (fun z => hne z.1.symm), zf_u2 (List.mem_cons_of_mem _ hq)⟩
theorem zg_cell {m : Nat} {F S : List Nat} {I I2 : zi_I} (h : zg m F S I I2) {q : Nat} (h1 : q ≠ m) (h2 : q ∉ S) (i : Nat) : I2 q i = I q i := by
  rw [h.2 q (fun z => (List.mem_cons.mp z).elim h1 h2)]
def md_W (I : zi_I) (m : Nat) (s : ws_S) : Prop := s.2.2 < 8 ∧ s.2.1 < 2 ^ s.2.2 ∧ I m 5 = nI (s.1.length + if s.2.2 = 0 then 0 else 1) ∧ I m 11 = nI (if s.2.2 = 0 then 0 else 8 - s.2.2) ∧ (∀ i, i < s.1.length → I (m + 3) i = nI (s.1.getD i 0)) ∧ (s.2.2 ≠ 0 → I (m + 3) s.1.length = nI (s.2.1 * 2 ^ (8 - s.2.2)))
theorem md_or {a b k : Nat} (hb : b < 2) : (2 * a) * 2 ^ k ||| b * 2 ^ k = (2 * a + b) * 2 ^ k := by
  rw [← Nat.shiftLeft_eq, ← Nat.shiftLeft_eq, ← Nat.shiftLeft_or_distrib, zb_or2 hb, Nat.shiftLeft_eq]
theorem getD_snoc_lt {bs : List Nat} {x i : Nat} (h : i < bs.length) : (bs ++ [x]).getD i 0 = bs.getD i 0 := by
  simp only [List.getD_eq_getElem?_getD, List.getElem?_append_left h]
theorem getD_snoc_eq {bs : List Nat} {x : Nat} : (bs ++ [x]).getD bs.length 0 = x := by simp
section MW
variable {K : zx_Kt} {RJ : zx_RJ} {m : Nat}
theorem t_mwrite (l : Launch) (d : Nat) {x k0 : Nat} {Q : zi_Q} (g : g_Mod K RJ m) (hx : x < 2 ^ 31) :
    ∀ (k : Nat) (s : ws_S) (I : zi_I), k ≤ 31 → md_W I m s → ws_n s + k ≤ 8 * 8000 → (∀ I2, md_W I2 m (ws_put s x k) → zg m [5, 11] [m + 3] I I2 → Q none I2) →
      zi_X l (zx_rm d 0 0) M_Mod_write K RJ Q 4 [(0, .ref m), (1, .int (nI x)), (2, .int (nI k0)), (3, .int (nI k - 1))] [] I := by
  intro k
  induction k with
  | zero =>
    intro s I hk a hn hq
    exact r_Mod_write_4 l d m _ _ _ g.1 g.freshR (by omega) g.freshK ⟨fun _ => hq I a zg_refl, fun c => absurd (by decide) c⟩
  | succ k ih =>
    intro s I hk a hn hq
    rw [nI_pred]
    obtain ⟨bs, hv, c0⟩ := s
    obtain ⟨a1, a2, a3, a4, a5, a6⟩ := a
    dsimp only at a1 a2 a3 a4 a5 a6
    have hws : ws_n (bs, hv, c0) = 8 * bs.length + c0 := rfl
    have hbit : x / 2 ^ k % 2 < 2 := Nat.mod_lt _ (by omega)
    have hp : 2 ^ c0 ≤ 2 ^ 7 := Nat.pow_le_pow_right (by omega) (by omega)
    have hstep : ws_put (bs, hv, c0) x (k + 1) = ws_put (ws_bit (bs, hv, c0) (x / 2 ^ k % 2)) x k := rfl
    have eb : (nI x >>> (nI k &&& 31)) &&& 1 = nI (x / 2 ^ k % 2) := by
      rw [zb_shr hx (by omega), zb_mod2 (Nat.lt_of_le_of_lt (Nat.div_le_self _ _) (by omega))]
    refine r_Mod_write_4 l d m _ _ _ g.1 g.freshR (by omega) g.freshK ⟨fun c => absurd c (nI_pos (by omega)), fun _ => ⟨fun c => ?_, fun c => ?_⟩⟩
    · have hc0 : c0 ≠ 0 := fun e => c (by rw [a4, if_pos e]; rfl)
      rw [if_neg hc0] at a3 a4
      have a6 := a6 hc0
      have e5 : I m 5 - 1 = nI bs.length := by rw [a3, nI_pred]
      have e11 : I m 11 - 1 = nI (7 - c0) := by
        rw [a4, show 8 - c0 = (7 - c0) + 1 by omega, nI_pred]
      refine ⟨bs.length, e5, by omega, bs.length, e5, by omega, ?_⟩
      rw [eb, e11, zx_u2_ne (by omega), a6, zb_shl (by omega) (Nat.lt_of_le_of_lt (Nat.mul_le_mul (Nat.le_of_lt_succ hbit) (Nat.pow_le_pow_right (n := 2) (by omega) (show 7 - c0 ≤ 7 by omega))) (by decide)), zb_or, zi_m1]
      have eo : hv * 2 ^ (8 - c0) ||| x / 2 ^ k % 2 * 2 ^ (7 - c0) = (2 * hv + x / 2 ^ k % 2) * 2 ^ (7 - c0) := by
        rw [← md_or hbit, show 8 - c0 = (7 - c0) + 1 by omega, Nat.pow_succ]
        congr 1
        rw [Nat.mul_comm (2 ^ (7 - c0)) 2, ← Nat.mul_assoc, Nat.mul_comm hv 2]
      rw [eo]
      refine ih (ws_bit (bs, hv, c0) (x / 2 ^ k % 2)) _ (by omega) ?_ (by rw [ws_n_bit]; omega) (fun I2 y1 y2 => hq I2 y1 (zg_trans (zg_trans (zg_fld (by simp)) (zg_arr (by simp) (by omega))) y2))
      by_cases h8 : c0 + 1 = 8
      · have hw : ws_bit (bs, hv, c0) (x / 2 ^ k % 2) = (bs ++ [2 * hv + x / 2 ^ k % 2], 0, 0) := by simp [ws_bit, h8]
        rw [hw]
        refine ⟨(show 0 < 8 by decide), (show 0 < 2 ^ 0 by decide), ?_, ?_, ?_, fun h => absurd rfl h⟩
        · rw [zx_u2_ne (by omega), zx_u2_ne (by omega), a3]
          simp
        · rw [zx_u2_ne (by omega), zx_u2_s, show 7 - c0 = 0 by omega]
          rfl
        · intro i hi
          have hi : i < bs.length + 1 := by simpa using hi
          by_cases h1 : i = bs.length
          · subst h1
            rw [zx_u2_s]
            show _ = nI ((bs ++ [_]).getD bs.length 0)
            rw [getD_snoc_eq, show 7 - c0 = 0 by omega]
            simp
          · rw [zx_u2_k h1, zx_u2_ne (by omega)]
            show _ = nI ((bs ++ [_]).getD i 0)
            rw [getD_snoc_lt (by omega)]
            exact a5 i (by omega)
      · have hw : ws_bit (bs, hv, c0) (x / 2 ^ k % 2) = (bs, 2 * hv + x / 2 ^ k % 2, c0 + 1) := by simp [ws_bit, h8]
        rw [hw]
        refine ⟨(show c0 + 1 < 8 by omega), (show 2 * hv + x / 2 ^ k % 2 < 2 ^ (c0 + 1) by rw [Nat.pow_succ]; omega), ?_, ?_, ?_, fun _ => ?_⟩
        · rw [zx_u2_ne (by omega), zx_u2_ne (by omega), a3]
          simp
        · rw [zx_u2_ne (by omega), zx_u2_s]
          simp
        · intro i hi
          have hi : i < bs.length := hi
          rw [zx_u2_k (by omega), zx_u2_ne (by omega)]
          exact a5 i hi
        · rw [zx_u2_s]
          show _ = nI ((2 * hv + x / 2 ^ k % 2) * 2 ^ (8 - (c0 + 1)))
          rw [show 8 - (c0 + 1) = 7 - c0 by omega]
    · have hc0 : c0 = 0 := by
        refine Decidable.byContradiction (fun e => ?_)
        rw [a4, if_neg e, show (0 : Int32) = nI 0 from rfl, nI_eq (by omega) (by omega)] at c
        omega
      subst hc0
      have hv0 : hv = 0 := by simpa using a2
      subst hv0
      simp only [if_pos, Nat.add_zero] at a3 a4
      refine ⟨bs.length, a3, by omega, bs.length, by rw [a3, nI_1, nI_pred], by omega, bs.length, by rw [a3, nI_1, nI_pred], by omega, ?_⟩
      have e7 : (8 : Int32) - 1 = nI 7 := rfl
      rw [eb, e7, zx_u2_ne (by omega), zx_u2_ne (by omega), zx_u2_ne (by omega), zx_u2_s, zb_shl (by omega) (Nat.lt_of_le_of_lt (Nat.mul_le_mul_right _ (Nat.le_of_lt_succ hbit)) (by decide)), show (0 : Int32) = nI 0 from rfl, zb_or, Nat.zero_or, zi_m1, a3, nI_1]
      refine ih (ws_bit (bs, 0, 0) (x / 2 ^ k % 2)) _ (by omega) ?_ (by rw [ws_n_bit]; omega) (fun I2 y1 y2 => hq I2 y1 (zg_trans (zg_trans (zg_trans (zg_trans (zg_trans (zg_arr (by simp) (by omega)) (zg_fld (by simp))) (zg_fld (by simp))) (zg_fld (by simp))) (zg_arr (by simp) (by omega))) y2))
      have hw : ws_bit (bs, 0, 0) (x / 2 ^ k % 2) = (bs, x / 2 ^ k % 2, 1) := by simp [ws_bit]
      rw [hw]
      refine ⟨(show 1 < 8 by decide), hbit, ?_, ?_, ?_, fun _ => ?_⟩
      · rw [zx_u2_ne (by omega), zx_u2_k (by decide), zx_u2_k (by decide), zx_u2_s]
        rfl
      · rw [zx_u2_ne (by omega), zx_u2_s]
        rfl
      · intro i hi
        have hi : i < bs.length := hi
        rw [zx_u2_k (by omega), zx_u2_ne (by omega), zx_u2_ne (by omega), zx_u2_ne (by omega), zx_u2_k (by omega)]
        exact a5 i hi
      · rw [zx_u2_s]
        rfl
theorem c_mwrite (l : Launch) (d : Nat) {I : zi_I} {s : ws_S} {x k : Nat} (g : g_Mod K RJ m) (a : md_W I m s) (hx : x < 2 ^ 31) (hk : k ≤ 31) (hn : ws_n s + k ≤ 8 * 8000) : zi_C l (zx_rm d 0 0) M_Mod_write [.ref m, .int (nI x), .int (nI k)] K RJ I (fun r I2 => r = none ∧ md_W I2 m (ws_put s x k) ∧ zg m [5, 11] [m + 3] I I2) :=
  zi_of (by decide) (fun α => Nat.le_of_ble_eq_true rfl) (r_Mod_write_0 l d m _ _ (t_mwrite l d g hx k s I hk a hn (fun I2 z1 z2 => ⟨rfl, z1, z2⟩)))
end MW
