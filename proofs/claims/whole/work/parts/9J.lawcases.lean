/-! The law's loop, case by case: class and reference answer alike, and hold the same state after. -/
abbrev lL (i : Nat) : List (Nat × Value) := [(0, .ref 0), (1, .ref 1), (2, .ref 103), (3, .ref 124), (4, .int (nI i))]
section LB
variable {l : Launch} {kc ks : Nat} {pc i Ln : Nat} {xs : Nat → Int32} {K : zx_Kt} {RJ : zx_RJ} {I : zi_I} {s s2 : ab_S} {v : Int32}
theorem cls_stay {tl nx : Nat} (g : g_Main K RJ 1 tl nx) (a : a_C I 1 tl s) : cls_P K RJ 1 I s (K, I, RJ) := ⟨I, RJ, tl, nx, rfl, g, rfl, fun _ _ => rfl, a, zf_refl⟩
/-- a call of the class, then one of the reference, with the same answer -/
theorem lb_go {MC MM : zx_M} {ic im n p2 p3 : Nat} {off : Int} {Al : List Value} (hI : lw_I K I RJ s) (hC : ∀ tl nx, g_Main K RJ 1 tl nx → a_C I 1 tl s → zx_C l (zx_rm 7 0 0) MC false (.ref 1 :: Al) (K, I, RJ) (fun r h2 => r = some (.int v) ∧ cls_P K RJ 1 I s2 h2))
    (hM : ∀ (I2 : zi_I) (RJ2 : zx_RJ), g_Mod K RJ2 103 → a_M I2 103 s → zi_C l (zx_rm 7 0 0) MM (.ref 103 :: Al) K RJ2 I2 (fun r I3 => r = some (.int v) ∧ mod_P 103 I2 0 s2 I3)) (lc : zi_lkV "SortedBlocksLaw" ic MC n 0) (lm : zi_lkV "SortedBlocksLaw" im MM n 1) (hn : Al.length = n) (mc : MC.2.2.1 ≤ 21) (mm : MM.2.2.1 ≤ 21) (h1 : kc ≤ 601024) (h2 : ks ≤ 7293034)
    (d1 : decode M_Law_law.2.1 pc = .ok (.invokevirtual ic, 3)) (d2 : decode M_Law_law.2.1 (pc + 3) = .ok (.aload_n 2, 1))
    (hA : ∀ (I2 : zi_I) (RJ2 : zx_RJ), la_X l kc ks (zl_Y Ln xs) p2 (lL i) (Al.reverse ++ [.ref 103, .int v]) (K, I2, RJ2) → la_X l kc ks (zl_Y Ln xs) (pc + 4) (lL i) [.ref 103, .int v] (K, I2, RJ2)) (d3 : decode M_Law_law.2.1 p2 = .ok (.invokevirtual im, 3)) (hp : p2 + 3 = p3) (d4 : decode M_Law_law.2.1 p3 = .ok (.if_icmp .eq off, 3)) (ht : (p3 : Int) + off = (694 : Nat))
    (k : ∀ (I3 : zi_I) (RJ3 : zx_RJ), lw_I K I3 RJ3 s2 → la_X l kc ks (zl_Y Ln xs) 694 (lL i) [] (K, I3, RJ3)) : la_X l kc ks (zl_Y Ln xs) pc (lL i) (Al.reverse ++ [.ref 1]) (K, I, RJ) := by
  obtain ⟨⟨tl, nx, g, a⟩, gm, am, ho⟩ := hI
  refine la_call (S2 := []) (hC tl nx g a) lc g.k (by decide) hn rfl (Nat.zero_le _) mc h1 h2 d1 ?_
  rintro r h2 ⟨rfl, I2, RJ2, tl2, nx2, rfl, g2, r2, r3, a2, z2⟩
  obtain ⟨gm2, am2⟩ := lw_I.cls ⟨⟨tl, nx, g, a⟩, gm, am, ho⟩ r3 z2
  refine zx_aload_n d2 rfl ?_
  refine hA I2 RJ2 ?_
  refine la_call (S2 := [.int v]) (zi_up (P := fun r h2 => r = some (.int v) ∧ ∃ I3, h2 = (K, I3, RJ2) ∧ mod_P 103 I2 0 s2 I3) (hM I2 RJ2 gm2 am2) (fun r I3 q => ⟨q.1, I3, rfl, q.2⟩)) lm gm2.1 (by decide) hn rfl (Nat.le_of_ble_eq_true rfl) mm h1 h2 d3 ?_
  rintro r h2 ⟨rfl, I3, rfl, hp3⟩
  subst hp
  refine zx_icmp_eq (tgt := 694) d4 ht (fun _ => ?_) (fun q => absurd rfl q)
  exact k I3 RJ2 (lw_I.mod g2 a2 gm2 hp3 ho)
/-- the reference's throw against the helper's answer -/
theorem lt_thrown {k p1 : Nat} {Lx : List (Nat × Value)} (gm : g_Mod K RJ 103) (hk : I 103 0 = nI k) (g2 : zx_get 2 Lx = some (.ref 103)) (g5 : zx_get 5 Lx = some (.int (nI k))) (h1 : kc ≤ 601024) (h2 : ks ≤ 7293034) (d1 : decode M_Law_law.2.1 pc = .ok (.aload_n 2, 1)) (d2 : decode M_Law_law.2.1 (pc + 1) = .ok (.invokevirtual 54, 3)) (d3 : decode M_Law_law.2.1 (pc + 4) = .ok (.iload 5, 2)) (d4 : decode M_Law_law.2.1 (pc + 6) = .ok (.if_icmp .eq 5, 3)) (hp : pc + 11 = p1)
    (kx : la_X l kc ks (zl_Y Ln xs) p1 Lx [] (K, I, RJ)) : la_X l kc ks (zl_Y Ln xs) pc Lx [] (K, I, RJ) := by
  refine zx_aload_n d1 g2 ?_
  refine la_call (S2 := []) (zi_up (P := fun r h2 => r = some (.int (nI k)) ∧ h2 = (K, I, RJ)) (c_mthrown l 7 gm) (fun r I3 q => ⟨by rw [q.1, hk], by rw [q.2]⟩)) k_Law_54 gm.1 (by decide) rfl rfl (Nat.zero_le _) (Nat.le_of_ble_eq_true rfl) h1 h2 d2 ?_
  rintro r h2 ⟨rfl, rfl⟩
  refine zx_iload d3 g5 ?_
  refine zx_icmp_eq (tgt := p1) d4 (by subst hp; show ((pc + 6 : Nat) : Int) + 5 = ((pc + 11 : Nat) : Int); omega) (fun _ => kx) (fun q => absurd rfl q)
/-- the answers, where nothing was thrown -/
theorem lt_answer {k p1 : Nat} {Lx : List (Nat × Value)} (hk3 : k < 3) (ho : K.2 124 = (2, 1)) (hj : k = 0 → RJ.2 124 0 = v.toInt64) (g3 : zx_get 3 Lx = some (.ref 124)) (g5 : zx_get 5 Lx = some (.int (nI k))) (g6 : zx_get 6 Lx = some (.int v)) (d1 : decode M_Law_law.2.1 pc = .ok (.iload 5, 2)) (d2 : decode M_Law_law.2.1 (pc + 2) = .ok (.ifCond .ne 15, 3)) (d3 : decode M_Law_law.2.1 (pc + 5) = .ok (.aload_n 3, 1)) (d4 : decode M_Law_law.2.1 (pc + 6) = .ok (.iconst 0, 1)) (d5 : decode M_Law_law.2.1 (pc + 7) = .ok (.laload, 1)) (d6 : decode M_Law_law.2.1 (pc + 8) = .ok (.iload 6, 2)) (d7 : decode M_Law_law.2.1 (pc + 10) = .ok (.i2l, 1)) (d8 : decode M_Law_law.2.1 (pc + 11) = .ok (.lcmp, 1)) (d9 : decode M_Law_law.2.1 (pc + 12) = .ok (.ifCond .eq 5, 3)) (hp : pc + 17 = p1)
    (kx : la_X l kc ks (zl_Y Ln xs) p1 Lx [] (K, I, RJ)) : la_X l kc ks (zl_Y Ln xs) pc Lx [] (K, I, RJ) := by
  refine zx_iload d1 g5 ?_
  refine zx_if_ne (tgt := p1) d2 (by subst hp; show ((pc + 2 : Nat) : Int) + 15 = ((pc + 17 : Nat) : Int); omega) (fun _ => kx) (fun q => ?_)
  have hk : k = 0 := by
    have : k = 0 ∨ k = 1 ∨ k = 2 := by omega
    rcases this with rfl | rfl | rfl
    · rfl
    · exact absurd q (by decide)
    · exact absurd q (by decide)
  refine zx_aload_n d3 g3 ?_
  refine zx_iconst d4 (v := 0) (by decide) ?_
  refine zx_lald (h := (K, I, RJ)) 0 ho rfl (by decide) d5 ?_
  refine zx_iload d6 g6 ?_
  refine zx_i2l d7 ?_
  refine zx_lcmp d8 ?_
  refine zx_if_eq (tgt := p1) d9 (by subst hp; show ((pc + 12 : Nat) : Int) + 5 = ((pc + 17 : Nat) : Int); omega) (fun _ => kx) (fun q => absurd ?_ q)
  show lg_cmp (RJ.2 124 0) v.toInt64 = 0
  rw [hj hk]
  unfold lg_cmp
  rw [if_neg (fun z => by exact absurd z (by simp)), if_pos rfl]
theorem lt_back {Lx : List (Nat × Value)} {off : Int} (hs : ∀ q ∈ lL i, q ∈ Lx) (d : decode M_Law_law.2.1 pc = .ok (.goto off, 3)) (ht : (pc : Int) + off = (694 : Nat)) (kx : la_X l kc ks (zl_Y Ln xs) 694 (lL i) [] (K, I, RJ)) : la_X l kc ks (zl_Y Ln xs) pc Lx [] (K, I, RJ) := zx_goto d ht (zx_loc hs kx)
/-- behind a helper: the reference's call, both throws, both answers -/
theorem lh_ans {MM : zx_M} {im n k p2 : Nat} {Al : List Value} {RJ2 : zx_RJ} {I2 : zi_I} {tl nx : Nat} (hk3 : k < 3) (g : g_Main K RJ2 1 tl nx) (a : a_C I2 1 tl s2) (gm : g_Mod K RJ2 103) (ho : K.2 124 = (2, 1)) (hj : k = 0 → RJ2.2 124 0 = v.toInt64)
    (hM : zi_C l (zx_rm 7 0 0) MM (.ref 103 :: Al) K RJ2 I2 (fun r I3 => r = some (.int v) ∧ mod_P 103 I2 k s2 I3)) (lm : zi_lkV "SortedBlocksLaw" im MM n 1) (hn : Al.length = n) (mm : MM.2.2.1 ≤ 21) (h1 : kc ≤ 601024) (h2 : ks ≤ 7293034)
    (d0 : decode M_Law_law.2.1 pc = .ok (.istore 5, 2)) (d1 : decode M_Law_law.2.1 (pc + 2) = .ok (.aload_n 2, 1)) (hA : la_X l kc ks (zl_Y Ln xs) p2 (lL i ++ [(5, .int (nI k))]) (Al.reverse ++ [.ref 103]) (K, I2, RJ2) → la_X l kc ks (zl_Y Ln xs) (pc + 3) (lL i ++ [(5, .int (nI k))]) [.ref 103] (K, I2, RJ2))
    (d2 : decode M_Law_law.2.1 p2 = .ok (.invokevirtual im, 3)) (d3 : decode M_Law_law.2.1 (p2 + 3) = .ok (.istore 6, 2)) (hT : ∀ (I3 : zi_I), mod_P 103 I2 k s2 I3 → la_X l kc ks (zl_Y Ln xs) (p2 + 5) (lL i ++ [(5, .int (nI k)), (6, .int v)]) [] (K, I3, RJ2)) : la_X l kc ks (zl_Y Ln xs) pc (lL i) [.int (nI k)] (K, I2, RJ2) := by
  refine zx_istore d0 (Nat.le_of_ble_eq_true rfl) rfl ?_
  refine zx_aload_n d1 rfl ?_
  refine hA ?_
  refine la_call (S2 := []) (zi_up (P := fun r h2 => r = some (.int v) ∧ ∃ I3, h2 = (K, I3, RJ2) ∧ mod_P 103 I2 k s2 I3) hM (fun r I3 q => ⟨q.1, I3, rfl, q.2⟩)) lm gm.1 (by decide) hn rfl (Nat.zero_le _) mm h1 h2 d2 ?_
  rintro r h2 ⟨rfl, I3, rfl, hp3⟩
  exact zx_istore d3 (Nat.le_of_ble_eq_true rfl) rfl (hT I3 hp3)
theorem lh_non {MM : zx_M} {im n k p2 : Nat} {Al : List Value} {RJ2 : zx_RJ} {I2 : zi_I} (gm : g_Mod K RJ2 103)
    (hM : zi_C l (zx_rm 7 0 0) MM (.ref 103 :: Al) K RJ2 I2 (fun r I3 => r = none ∧ mod_P 103 I2 k s2 I3)) (lm : zi_lkV "SortedBlocksLaw" im MM n 1) (hn : Al.length = n) (mm : MM.2.2.1 ≤ 21) (h1 : kc ≤ 601024) (h2 : ks ≤ 7293034)
    (d0 : decode M_Law_law.2.1 pc = .ok (.istore 5, 2)) (d1 : decode M_Law_law.2.1 (pc + 2) = .ok (.aload_n 2, 1)) (hA : la_X l kc ks (zl_Y Ln xs) p2 (lL i ++ [(5, .int (nI k))]) (Al.reverse ++ [.ref 103]) (K, I2, RJ2) → la_X l kc ks (zl_Y Ln xs) (pc + 3) (lL i ++ [(5, .int (nI k))]) [.ref 103] (K, I2, RJ2))
    (d2 : decode M_Law_law.2.1 p2 = .ok (.invokevirtual im, 3)) (hT : ∀ (I3 : zi_I), mod_P 103 I2 k s2 I3 → la_X l kc ks (zl_Y Ln xs) (p2 + 3) (lL i ++ [(5, .int (nI k))]) [] (K, I3, RJ2)) : la_X l kc ks (zl_Y Ln xs) pc (lL i) [.int (nI k)] (K, I2, RJ2) := by
  refine zx_istore d0 (Nat.le_of_ble_eq_true rfl) rfl ?_
  refine zx_aload_n d1 rfl ?_
  refine hA ?_
  refine la_call (S2 := []) (zi_up (P := fun r h2 => r = none ∧ ∃ I3, h2 = (K, I3, RJ2) ∧ mod_P 103 I2 k s2 I3) hM (fun r I3 q => ⟨q.1, I3, rfl, q.2⟩)) lm gm.1 (by decide) hn rfl (Nat.zero_le _) mm h1 h2 d2 ?_
  rintro r h2 ⟨rfl, I3, rfl, hp3⟩
  exact hT I3 hp3
end LB
