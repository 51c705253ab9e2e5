/-! The block that is made of bytes. -/
def bk_sh (f : Nat → Nat) (n i : Nat) : Nat := (sh_F f n).getD i 0
def bk_co (f : Nat → Nat) (n : Nat) : List Nat := so_col (bk_sh f n) (sh_F f n).length
def bk_ks (f : Nat → Nat) (n : Nat) : List Nat := kf (uu (sh_F f n) (sh_F f n).length) 256
def bk_sl (f : Nat → Nat) (n : Nat) : List Nat := sy_all (fun i => (bk_co f n).getD i 0) (sh_F f n).length (bk_ks f n)
def bk_G (f : Nat → Nat) (n : Nat) : Nat := ((bk_sl f n).length + 7) / 8
def bk_mk (f : Nat → Nat) (n : Nat) : bk_B := (cr_fn f 0 n 65535, so_P (bk_sh f n) (sh_F f n).length 0, sh_F f n, bk_co f n, bk_ks f n, bk_sl f n, pc_T (bk_G f n), bk_G f n, pc_pk (fun k => (bk_sl f n).getD k 0) (bk_sl f n).length ((bk_ks f n).length + 2) (pc_T (bk_G f n)) 3, pc_ln (fun k => (bk_sl f n).getD k 0) (bk_sl f n).length ((bk_ks f n).length + 2) (pc_T (bk_G f n)) 2)
theorem so_col_mem {f : Nat → Nat} {n b : Nat} (hn : 0 < n) : b ∈ so_col f n ↔ ∃ i, i < n ∧ f i = b := by
  unfold so_col
  rw [List.mem_map]
  constructor
  · rintro ⟨r, hr, rfl⟩
    exact ⟨(r + n - 1) % n, Nat.mod_lt _ hn, rfl⟩
  · rintro ⟨i, hi, rfl⟩
    refine ⟨(i + 1) % n, (so_L_perm n).mem_iff.mpr (List.mem_range.mpr (Nat.mod_lt _ hn)), ?_⟩
    congr 1
    by_cases e : i + 1 = n
    · rw [e, Nat.mod_self, Nat.zero_add, Nat.mod_eq_of_lt (by omega)]
      omega
    · rw [Nat.mod_eq_of_lt (show i + 1 < n by omega), show i + 1 + n - 1 = i + n by omega, Nat.add_mod_right, Nat.mod_eq_of_lt hi]
section BM
variable {f : Nat → Nat} {n : Nat}
theorem bk_co_len : (bk_co f n).length = (sh_F f n).length := so_col_len
theorem bk_co_mem {b : Nat} (h : 0 < (sh_F f n).length) : b ∈ bk_co f n ↔ b ∈ sh_F f n := by
  unfold bk_co
  rw [so_col_mem h]
  constructor
  · rintro ⟨i, hi, rfl⟩
    exact getD_mem hi
  · intro hb
    obtain ⟨p, p1, p2⟩ := mem_getD hb
    exact ⟨p, p1, p2⟩
theorem bk_ks_co (h : 0 < (sh_F f n).length) : kf (uu (bk_co f n) (bk_co f n).length) 256 = bk_ks f n := by
  unfold bk_ks
  refine kf_congr (fun b _ => ?_)
  rw [Bool.eq_iff_iff, uu_mem, uu_mem]
  exact bk_co_mem h
theorem bk_ks_mem (hf : ∀ k, k < n → f k < 256) {b : Nat} : b ∈ bk_ks f n ↔ b ∈ sh_F f n := by
  unfold bk_ks
  rw [kf_mem, uu_mem]
  exact ⟨fun h => h.2, fun h => ⟨sh_F_lt n hf b h, h⟩⟩
theorem bk_ks_len : (bk_ks f n).length ≤ (sh_F f n).length := kf_uu_le _ _ _
theorem bk_sl_len : (bk_sl f n).length ≤ (sh_F f n).length + 1 := sy_all_len
theorem bk_sl_pos : 1 ≤ (bk_sl f n).length := by
  unfold bk_sl sy_all
  rw [List.length_append, List.length_singleton]
  omega
theorem pc_T_bd (G : Nat) : 0 < pc_T G ∧ pc_T G ≤ 3 := by
  unfold pc_T
  split <;> omega
theorem bk_mem_co (hf : ∀ k, k < n → f k < 256) (h : 0 < (sh_F f n).length) : ∀ k, k < (sh_F f n).length → (bk_co f n).getD k 0 ∈ bk_ks f n := fun k hk => (bk_ks_mem hf).mpr ((bk_co_mem h).mp (getD_mem (by rw [bk_co_len]; exact hk)))
theorem bk_sy_lt (hf : ∀ k, k < n → f k < 256) (h : 0 < (sh_F f n).length) {k : Nat} (hk : k < (bk_sl f n).length) : (bk_sl f n).getD k 0 < (bk_ks f n).length + 2 := sy_all_lt (bk_mem_co hf h) _ (getD_mem hk)
theorem bk_mk_ok (hf : ∀ k, k < n → f k < 256) (h : 0 < (sh_F f n).length) (h64 : (sh_F f n).length ≤ 64) : bk_ok (bk_mk f n) := by
  have hk := bk_ks_len (f := f) (n := n)
  have hs := bk_sl_len (f := f) (n := n)
  have hT := pc_T_bd (bk_G f n)
  have hG : bk_G f n ≤ 9 := by
    unfold bk_G
    omega
  refine ⟨cr_fn_lt n 0 65535 (by decide) (fun k _ h => hf k (by omega)), ?_, h64, bk_co_len, sh_F_lt n hf, fun v hv => sh_F_lt n hf v ((bk_co_mem h).mp hv), ?_, ?_, ?_, ?_, hT.1, ?_, ?_, ?_, ?_, ?_⟩
  · exact Nat.lt_of_lt_of_le (so_P_lt (f := bk_sh f n) h).1 h64
  · show (bk_ks f n).length ≤ 256
    omega
  · exact fun v hv => sh_F_lt n hf v ((bk_ks_mem hf).mp hv)
  · show (bk_sl f n).length ≤ 65
    omega
  · exact fun k hk => bk_sy_lt hf h hk
  · show pc_T (bk_G f n) ≤ 4
    omega
  · show bk_G f n ≤ 63
    omega
  · show (bk_sl f n).length ≤ 8 * bk_G f n
    unfold bk_G
    omega
  · exact fun g _ => pc_pk_lt hT.1 3 g
  · intro t _ s hs2
    have hs3 : s < (bk_ks f n).length + 2 := hs2
    have a1 := pc_ln_ge (sy := fun k => (bk_sl f n).getD k 0) (y := (bk_sl f n).length) (T := pc_T (bk_G f n)) (r := 2) (t := t) (n := (bk_ks f n).length + 2) (by omega) (by omega) hs3
    have a2 := pc_ln_le (sy := fun k => (bk_sl f n).getD k 0) (y := (bk_sl f n).length) (T := pc_T (bk_G f n)) (r := 2) (t := t) (n := (bk_ks f n).length + 2) (by omega) (by omega) (by omega) hs3
    exact ⟨a1, Nat.le_trans a2 (by decide)⟩
end BM
