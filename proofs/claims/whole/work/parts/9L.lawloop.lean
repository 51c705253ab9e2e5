/-! The law's loop, and its start. -/
theorem ll_and (x : Int32) : ∃ k, k < 32 ∧ x &&& 31 = nI k := by
  refine ⟨(x &&& 31).toBitVec.toNat, ?_, ?_⟩
  · have : (x &&& 31).toBitVec = x.toBitVec &&& 31#32 := rfl
    rw [this, BitVec.toNat_and]
    exact Nat.lt_of_le_of_lt Nat.and_le_right (by decide)
  · apply Int32.toBitVec_inj.mp
    show _ = BitVec.ofNat 32 _
    rw [BitVec.ofNat_toNat, BitVec.setWidth_eq]
theorem ll_toInt {n : Nat} (h : n < 2 ^ 20) : (nI n).toInt = n := Int32.toInt_ofNat_of_lt (by omega)
theorem ll_room {i Ln : Nat} (h1 : i ≤ 4096) (h2 : Ln ≤ 2048) (q : ¬ nI Ln - 4 < nI i) : i + 4 ≤ Ln := by
  apply Nat.le_of_not_lt
  intro hlt
  apply q
  rw [Int32.lt_iff_toInt_lt, ll_toInt (n := i) (by omega)]
  have e : (nI Ln - 4).toInt = (Ln : Int) - 4 := by
    rw [Int32.toInt_sub, ll_toInt (n := Ln) (by omega), show (4 : Int32).toInt = 4 from rfl]
    rw [Int.bmod_eq_of_le (by omega) (by omega)]
  rw [e]
  omega
section LW
variable {l : Launch} {Ln : Nat} {xs : Nat → Int32} {K : zx_Kt}
set_option maxRecDepth 20000 in
theorem lw_loop (htr : l.flags = pinnedFlags ++ [noTraceFlag]) (hL : Ln ≤ 2048) : ∀ (n i kc ks : Nat) (I : zi_I) (RJ : zx_RJ) (s : ab_S), Ln ≤ i + n → i ≤ Ln → kc ≤ 200 + i → ks ≤ 200000 + 6 * i → lw_I K I RJ s → la_X l kc ks (zl_Y Ln xs) 23 (lL i) [] (K, I, RJ) := by
  intro n
  induction n with
  | zero =>
    intro i kc ks I RJ s h1 h2 h3 h4 hI
    refine zx_iload d_Law_law_23 rfl ?_
    refine zx_aload_n d_Law_law_25 rfl ?_
    refine zl_alen d_Law_law_26 ?_
    refine zx_iconst (v := 4) d_Law_law_27 (by decide) ?_
    refine zx_isub d_Law_law_28 ?_
    refine zx_icmp_gt (tgt := 700) d_Law_law_29 (by decide) (fun _ => zl_end d_Law_law_700 d_Law_law_701 (by omega) (by omega)) (fun q => ?_)
    have := ll_room (by omega) hL q
    omega
  | succ n ih =>
    intro i kc ks I RJ s h1 h2 h3 h4 hI
    refine zx_iload d_Law_law_23 rfl ?_
    refine zx_aload_n d_Law_law_25 rfl ?_
    refine zl_alen d_Law_law_26 ?_
    refine zx_iconst (v := 4) d_Law_law_27 (by decide) ?_
    refine zx_isub d_Law_law_28 ?_
    refine zx_icmp_gt (tgt := 700) d_Law_law_29 (by decide) (fun _ => zl_end d_Law_law_700 d_Law_law_701 (by omega) (by omega)) (fun q => ?_)
    have hi := ll_room (by omega) hL q
    have kk : lk_K l kc ks i Ln xs K := fun kc2 ks2 I3 RJ3 s3 g1 g2 hI3 => by
      refine zx_iinc (v := 4) (L2 := lL (i + 4)) d_Law_law_694 rfl (Nat.le_of_ble_eq_true rfl) (by decide) (by rw [show nI i + 4 = nI (i + 4) from nI_add i 4]; rfl) ?_
      refine zx_goto (tgt := 23) d_Law_law_697 (by decide) ?_
      exact ih (i + 4) kc2 ks2 I3 RJ3 s3 (by omega) hi (by omega) (by omega) hI3
    refine zx_aload_n d_Law_law_32 rfl ?_
    refine zx_iload d_Law_law_33 rfl ?_
    refine zl_iald i rfl (by omega) hL d_Law_law_35 ?_
    refine zx_bipush (v := 31) d_Law_law_36 (by decide) ?_
    refine zx_iand d_Law_law_38 ?_
    obtain ⟨k, hk, e⟩ := ll_and (xs i)
    rw [e]
    have g1 : kc + 1 ≤ 601024 := by omega
    have g2 : ks + 6 ≤ 7293034 := by omega
    by_cases h17 : 17 ≤ k
    · refine zx_tableOut (tgt := 694) d_Law_law_39 (Or.inr ?_) (by decide) (kk kc ks I RJ s (by omega) (by omega) hI)
      rw [ll_toInt (n := k) (by omega)]
      omega
    have hc : k = 0 ∨ k = 1 ∨ k = 2 ∨ k = 3 ∨ k = 4 ∨ k = 5 ∨ k = 6 ∨ k = 7 ∨ k = 8 ∨ k = 9 ∨ k = 10 ∨ k = 11 ∨ k = 12 ∨ k = 13 ∨ k = 14 ∨ k = 15 ∨ k = 16 := by omega
    rcases hc with rfl | rfl | rfl | rfl | rfl | rfl | rfl | rfl | rfl | rfl | rfl | rfl | rfl | rfl | rfl | rfl | rfl
    · exact zx_tableIn (tgt := 120) (off := 81) d_Law_law_39 (by decide) (by decide) (by decide) (by decide) (lk_0 htr hI g1 g2 hi hL kk)
    · exact zx_tableIn (tgt := 220) (off := 181) d_Law_law_39 (by decide) (by decide) (by decide) (by decide) (lk_1 htr hI g1 g2 hi hL kk)
    · exact zx_tableIn (tgt := 256) (off := 217) d_Law_law_39 (by decide) (by decide) (by decide) (by decide) (lk_2 htr hI g1 g2 hi hL kk)
    · exact zx_tableIn (tgt := 292) (off := 253) d_Law_law_39 (by decide) (by decide) (by decide) (by decide) (lk_3 htr hI g1 g2 hi hL kk)
    · exact zx_tableIn (tgt := 336) (off := 297) d_Law_law_39 (by decide) (by decide) (by decide) (by decide) (lk_4 htr hI g1 g2 hi hL kk)
    · exact zx_tableIn (tgt := 392) (off := 353) d_Law_law_39 (by decide) (by decide) (by decide) (by decide) (lk_5 htr hI g1 g2 hi hL kk)
    · exact zx_tableIn (tgt := 436) (off := 397) d_Law_law_39 (by decide) (by decide) (by decide) (by decide) (lk_6 htr hI g1 g2 hi hL kk)
    · exact zx_tableIn (tgt := 449) (off := 410) d_Law_law_39 (by decide) (by decide) (by decide) (by decide) (lk_7 htr hI g1 g2 hi hL kk)
    · exact zx_tableIn (tgt := 462) (off := 423) d_Law_law_39 (by decide) (by decide) (by decide) (by decide) (lk_8 htr hI g1 g2 hi hL kk)
    · exact zx_tableIn (tgt := 475) (off := 436) d_Law_law_39 (by decide) (by decide) (by decide) (by decide) (lk_9 htr hI g1 g2 hi hL kk)
    · exact zx_tableIn (tgt := 488) (off := 449) d_Law_law_39 (by decide) (by decide) (by decide) (by decide) (lk_10 htr hI g1 g2 hi hL kk)
    · exact zx_tableIn (tgt := 544) (off := 505) d_Law_law_39 (by decide) (by decide) (by decide) (by decide) (lk_11 htr hI g1 g2 hi hL kk)
    · exact zx_tableIn (tgt := 557) (off := 518) d_Law_law_39 (by decide) (by decide) (by decide) (by decide) (lk_12 htr hI g1 g2 hi hL kk)
    · exact zx_tableIn (tgt := 582) (off := 543) d_Law_law_39 (by decide) (by decide) (by decide) (by decide) (lk_13 htr hI g1 g2 hi hL kk)
    · exact zx_tableIn (tgt := 607) (off := 568) d_Law_law_39 (by decide) (by decide) (by decide) (by decide) (lk_14 htr hI g1 g2 hi hL kk)
    · exact zx_tableIn (tgt := 632) (off := 593) d_Law_law_39 (by decide) (by decide) (by decide) (by decide) (lk_15 htr hI g1 g2 hi hL kk)
    · exact zx_tableIn (tgt := 669) (off := 630) d_Law_law_39 (by decide) (by decide) (by decide) (by decide) (lk_16 htr hI g1 g2 hi hL kk)
end LW
