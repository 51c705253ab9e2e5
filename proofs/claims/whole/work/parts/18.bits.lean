/-! Bits and small numbers. -/
theorem zb_sm : ∀ j, j < 32 → ((nI j &&& 31).toBitVec.smod 32).toNat = j := by decide +kernel
theorem zb_shr {n j : Nat} (hn : n < 2 ^ 31) (hj : j < 32) : nI n >>> (nI j &&& 31) = nI (n / 2 ^ j) := pk_shrN hn _ j (zb_sm j hj)
theorem zb_shl {n j : Nat} (hj : j < 32) (hn : n * 2 ^ j < 2 ^ 32) : nI n <<< (nI j &&& 31) = nI (n * 2 ^ j) := pk_shlN _ j (zb_sm j hj) hn
theorem zb_tb (n : Nat) : (nI n).toBitVec = BitVec.ofNat 32 n := rfl
theorem zb_inj {a b : Int32} (h : a.toBitVec = b.toBitVec) : a = b := Int32.toBitVec_inj.mp h
theorem zb_or (a b : Nat) : nI a ||| nI b = nI (a ||| b) := by
  apply zb_inj
  rw [Int32.toBitVec_or, zb_tb, zb_tb, zb_tb]
  apply BitVec.eq_of_getLsbD_eq
  intro i hi
  simp [BitVec.getLsbD_or, BitVec.getLsbD_ofNat, Nat.testBit_or, hi]
theorem zb_xor (a b : Nat) : nI a ^^^ nI b = nI (a ^^^ b) := by
  apply zb_inj
  rw [Int32.toBitVec_xor, zb_tb, zb_tb, zb_tb]
  apply BitVec.eq_of_getLsbD_eq
  intro i hi
  simp [BitVec.getLsbD_xor, BitVec.getLsbD_ofNat, Nat.testBit_xor, hi]
theorem zb_and (a b : Nat) : nI a &&& nI b = nI (a &&& b) := by
  apply zb_inj
  rw [Int32.toBitVec_and, zb_tb, zb_tb, zb_tb]
  apply BitVec.eq_of_getLsbD_eq
  intro i hi
  simp [BitVec.getLsbD_and, BitVec.getLsbD_ofNat, Nat.testBit_and, hi]
theorem zb_or2 {n b : Nat} (hb : b < 2) : (2 * n) ||| b = 2 * n + b := by
  have h := Nat.shiftLeft_add_eq_or_of_lt (i := 1) (show b < 2 ^ 1 by omega) n
  rw [Nat.shiftLeft_eq] at h
  rw [Nat.mul_comm 2 n]
  exact h.symm
/-- a bit more, on the right -/
theorem zb_in {n b : Nat} (hn : n < 2 ^ 31) (hb : b < 2) : (nI n <<< (1 &&& 31)) ||| nI b = nI (2 * n + b) := by
  have h : nI n <<< (1 &&& 31) = nI (n * 2) := zb_shl (j := 1) (by omega) (by omega)
  rw [h, zb_or, Nat.mul_comm, zb_or2 hb]
theorem zb_mod2 {n : Nat} (hn : n < 2 ^ 32) : nI n &&& 1 = nI (n % 2) := pk_andN hn 1 rfl
theorem zb_lit (n : Nat) : (OfNat.ofNat n : Int32) = nI n := rfl
/-- bit k of bytes, from the left -/
def bt_at (bs : List Nat) (k : Nat) : Nat := bs.getD (k / 8) 0 / 2 ^ (7 - k % 8) % 2
theorem bt_lt (bs : List Nat) (k : Nat) : bt_at bs k < 2 := Nat.mod_lt _ (by omega)
/-- what may have changed -/
def zf (S : List Nat) (I I2 : zi_I) : Prop := ∀ q, q ∉ S → I2 q = I q
theorem zf_refl {S : List Nat} {I : zi_I} : zf S I I := fun _ _ => rfl
theorem zf_trans {S : List Nat} {I I2 I3 : zi_I} (h1 : zf S I I2) (h2 : zf S I2 I3) : zf S I I3 := fun q hq => (h2 q hq).trans (h1 q hq)
theorem zf_mono {S S2 : List Nat} {I I2 : zi_I} (h : zf S I I2) (hs : ∀ q ∈ S, q ∈ S2) : zf S2 I I2 := fun q hq => h q (fun z => hq (hs q z))
theorem zf_u2 {S : List Nat} {I : zi_I} {p j : Nat} {v : Int32} (hp : p ∈ S) : zf S I (zx_u2 I p j v) := fun q hq => zx_u2_off (fun e => hq (e ▸ hp))
theorem zf_cpy {S : List Nat} {I : zi_I} {x p sp dp n : Nat} (hp : p ∈ S) : zf S I (zi_cpy I x p sp dp n) := fun q hq => by
  funext i
  have : q ≠ p := fun e => hq (e ▸ hp)
  simp [zi_cpy, this]
