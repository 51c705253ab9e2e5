/-! The class's unpack, whole. -/
theorem zx_callVk {l : Launch} {M : zx_M} {Z : zx_Zt} {pc : Nat} {L : List (Nat × Value)} {S : List Value} {K : zx_Kt} {RJ : zx_RJ} {I : zi_I} {dd cc sc : Nat} {M2 : zx_M} {b idx n ci : Nat} {As S2 : List Value} {Q2 : Option Value → zx_H → Prop} (hC : zx_C l (zx_rm dd 0 0) M2 false (.ref b :: As) (K, I, RJ) Q2) (lk : zi_lkV M.1.cls idx M2 n ci) (kd : (K.2 b).1 = ci + 5) (hci : ci < 90) (hn : As.length = n) (hS : S = As.reverse ++ .ref b :: S2) (hW : (S2.map fun v => v.category).sum ≤ 8) (hm : M2.2.2.1 ≤ 21) (d : decode M.2.1 pc = .ok (.invokevirtual idx, 3))
    (k : ∀ r h2, Q2 r h2 → zx_X l (zx_rm (dd + 1) cc sc) M false 0 0 Z (pc + 3) L (r.toList ++ S2) h2) : zx_X l (zx_rm (dd + 1) cc sc) M false 0 0 Z pc L S (K, I, RJ) := by
  obtain ⟨l1, l2, l3, T, N, l4⟩ := lk
  refine zx_callV (h := (K, I, RJ)) hC l1 l2 l3 hn kd hci l4 hS hW ⟨Nat.le_refl _, ?_⟩ ⟨Nat.zero_le _, Nat.zero_le _⟩ d k
  show 8 + (M2.2.2.1 + 11) + 40 * dd ≤ 40 * (dd + 1)
  omega
def cup_post (rd : rd_R st_V) (K : zx_Kt) (RJ : zx_RJ) (o tl nx : Nat) (I : zi_I) (r : Option Value) (h2 : zx_H) : Prop :=
  match rd with
  | .inl e => ∃ I2 : zi_I, h2 = (K, I2, RJ) ∧ r = some (.int e.1) ∧ e.1 ≠ 0 ∧ zg o [10, 11] (cs_S o nx) I I2 ∧ (∃ L, a_Row I2 (o + 5) 2000 L) ∧ I2 o 11 = nI e.2
  | .inr v => ∃ I2 : zi_I, r = some (.int (nI v.1.1.length)) ∧ I2 o 11 = -1 ∧ I2 o 9 = nI v.1.2.1 ∧ v.1.2.1 ≤ 3200 ∧ a_Row I2 (o + 5) 2000 v.1.1 ∧ a_Row I2 (o + 3) 4600 v.1.1 ∧ zg o [9, 10, 11] (cu_S o nx) I I2 ∧ ((v.1.2.1 = 0 ∧ h2 = (K, I2, RJ)) ∨ (0 < v.1.2.1 ∧ h2 = (K, I2, sw_RJ RJ o tl nx) ∧ a_Blk I2 nx v.1.2.2 ∧ bk_ok v.1.2.2))
section CU2
variable {K : zx_Kt} {RJ : zx_RJ} {o tl nx : Nat} {bs os : List Nat}
theorem c_cunpack (l : Launch) (d : Nat) {I : zi_I} {fs : List Nat} {B : bk_B} (g : g_Main K RJ o tl nx) (a : a_Row I (o + 1) 400 bs) (ao : a_Row I (o + 3) 4600 os) (af : a_Row I (o + 5) 2000 fs) (h1 : ∀ x, rd_all bs 400 [] 0 B 0 ≠ .inl (1, x)) :
    zx_C l (zx_rm (d + 6) 0 0) M_Main_unpack false [.ref o] (K, I, RJ) (cup_post (rd_all bs 400 [] 0 B 0) K RJ o tl nx I) := by
  have hd := g.d
  refine zx_C.of (by decide) (fun α => Nat.le_of_ble_eq_true rfl) (t_cu0 (B := B) (cc := 0) (sc := 0) (bs := bs) (os := os) l d g a ao af (fun pc S I2 x1 x2 hl => ?_))
  cases e : rd_all bs 400 [] 0 B 0 with
  | inl f =>
    rw [e] at hl
    obtain ⟨z, hL, hc⟩ := hl
    rcases hc with ⟨c1, -⟩ | ⟨c1, c2, rfl, rfl, c3⟩
    · exact absurd (e.trans (by rw [← c1])) (h1 f.2)
    · exact zx_iret d_Main_unpack_96 rfl ⟨I2, rfl, rfl, c2, z, hL, c3⟩ (Nat.zero_le _) (Nat.zero_le _) (fun q => absurd q (by decide))
  | inr v =>
    rw [e] at hl
    obtain ⟨c1, c2, c3, c4, c5⟩ := hl
    rcases c5 with ⟨b1, rfl, rfl, b4, b5⟩ | ⟨b1, rfl, rfl, b4, b5, b6⟩
    · exact zx_iret d_Main_unpack_127 rfl ⟨I2, rfl, c1, c2, c3, c4, b4, b5, Or.inl ⟨b1, rfl⟩⟩ (Nat.zero_le _) (Nat.zero_le _) (fun q => absurd q (by decide))
    · refine zx_callVk (c_tellNext l (d + 5) g) k_Main_156 g.k (by decide) rfl rfl (Nat.zero_le _) (Nat.le_of_ble_eq_true rfl) d_Main_unpack_113 ?_
      rintro r h2 ⟨rfl, rfl⟩
      have g2 := g.sw
      have ao2 : a_Row I2 (o + 3) 4600 os := ao.keep b4.2 (by rw [List.mem_cons, cs_mem]; omega) (by rw [List.mem_cons, cs_mem]; omega)
      refine y_Main_unpack_116 l (d + 5) o _ _ g2.k g2.oR (by omega) g2.ou.1 (zi_mono (c_takeFresh l (d + 3) g2 ao2 c4) ?_)
      rintro r I3 ⟨rfl, a3, z3⟩
      refine ⟨rfl, ?_⟩
      rw [a3.2.1]
      refine zx_iret d_Main_unpack_127 rfl ⟨I3, rfl, ?_, ?_, c3, c4.keep z3 (by simp <;> omega) (by simp <;> omega), a3, zg_trans (zg_mono b4 (fun _ h => h) (fun x hx => List.mem_cons_of_mem _ (List.mem_cons_of_mem _ hx))) ⟨fun i _ => zf_at z3 (by simp <;> omega) i, zf_mono z3 (fun x hx => ?_)⟩, Or.inr ⟨b1, rfl, b5.keep b6.T z3 (fun x hx => ?_), b6⟩⟩ (Nat.zero_le _) (Nat.zero_le _) (fun q => absurd q (by decide))
      · rw [zf_at z3 (by simp <;> omega)]
        exact c1
      · rw [zf_at z3 (by simp <;> omega)]
        exact c2
      · unfold cu_S
        simp only [List.mem_cons, List.not_mem_nil, or_false] at hx ⊢
        omega
      · simp only [List.mem_cons, List.not_mem_nil, or_false] at hx
        omega
theorem c_tunpack (l : Launch) (d : Nat) {I : zi_I} {fs : List Nat} {B : bk_B} (htr : l.flags = pinnedFlags ++ [noTraceFlag]) (g : g_Main K RJ o tl nx) (a : a_Row I (o + 1) 400 bs) (ao : a_Row I (o + 3) 4600 os) (af : a_Row I (o + 5) 2000 fs) {x : Nat} (h1 : rd_all bs 400 [] 0 B 0 = .inl (1, x)) :
    zx_CT l (zx_rm (d + 6) 1 6) M_Main_unpack [.ref o] (K, I, RJ) "java/lang/IllegalStateException" (fun h2 => ∃ I2 : zi_I, h2 = (K, I2, RJ) ∧ zg o [10, 11] (cs_S o nx) I I2 ∧ (∃ L, a_Row I2 (o + 5) 2000 L) ∧ I2 o 11 = -1) := by
  refine zx_CT.of (by decide) (fun α => Nat.le_of_ble_eq_true rfl) (t_cu0 (B := B) (cc := 1) (sc := 6) (bs := bs) (os := os) l d g a ao af (fun pc S I2 x1 x2 hl => ?_))
  rw [h1] at hl
  obtain ⟨z, hL, hc⟩ := hl
  rcases hc with ⟨c1, rfl, rfl, c3⟩ | ⟨c1, -⟩
  · exact zx_throw htr (th_4 _ _ th_t6) (show 6 ≤ d + 6 by omega) (show 100 ≤ 40 * (d + 6) by omega) rfl rfl d_Main_unpack_70 d_Main_unpack_73 d_Main_unpack_74 d_Main_unpack_76 d_Main_unpack_79 ⟨I2, rfl, z, hL, c3⟩
  · exact absurd rfl c1
end CU2
