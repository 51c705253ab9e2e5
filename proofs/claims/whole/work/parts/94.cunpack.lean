/-! The class unpacks. -/
def cu_S (o nx : Nat) : List Nat := (o + 3) :: (o + 4) :: cs_S o nx
/-- where the class's unpack leaves its loop -/
def cu_leaf (rd : rd_R st_V) (o nx pc : Nat) (S : List Value) (I I2 : zi_I) : Prop :=
  match rd with
  | .inl e => zg o [10, 11] (cs_S o nx) I I2 ∧ (∃ L, a_Row I2 (o + 5) 2000 L) ∧ ((e.1 = 1 ∧ pc = 70 ∧ S = [] ∧ I2 o 11 = -1) ∨ (e.1 ≠ 1 ∧ e.1 ≠ 0 ∧ pc = 96 ∧ S = [.int e.1] ∧ I2 o 11 = nI e.2))
  | .inr v => I2 o 11 = -1 ∧ I2 o 9 = nI v.1.2.1 ∧ v.1.2.1 ≤ 3200 ∧ a_Row I2 (o + 5) 2000 v.1.1 ∧ ((v.1.2.1 = 0 ∧ pc = 127 ∧ S = [.int (nI v.1.1.length)] ∧ a_Row I2 (o + 3) 4600 v.1.1 ∧ zg o [9, 10, 11] (cu_S o nx) I I2) ∨ (0 < v.1.2.1 ∧ pc = 113 ∧ S = [.ref o] ∧ zg o [9, 10, 11] (cs_S o nx) I I2 ∧ a_Blk I2 nx v.1.2.2 ∧ bk_ok v.1.2.2))
theorem cu_leaf.pre {rd : rd_R st_V} {o nx pc : Nat} {S : List Value} {I I1 I2 : zi_I} (z : zg o [10, 11] (cs_S o nx) I I1) (h : cu_leaf rd o nx pc S I1 I2) : cu_leaf rd o nx pc S I I2 := by
  unfold cu_leaf at *
  have z2 : zg o [9, 10, 11] (cs_S o nx) I I1 := zg_mono z (by simp <;> omega) (fun _ h => h)
  cases rd with
  | inl e => exact ⟨zg_trans z h.1, h.2⟩
  | inr v =>
    obtain ⟨h1, h2, h3, h4, h5⟩ := h
    refine ⟨h1, h2, h3, h4, ?_⟩
    rcases h5 with ⟨a1, a2, a3, a4, a5⟩ | ⟨a1, a2, a3, a4, a5⟩
    · exact Or.inl ⟨a1, a2, a3, a4, zg_trans (zg_mono z2 (fun _ h => h) (fun x hx => List.mem_cons_of_mem _ (List.mem_cons_of_mem _ hx))) a5⟩
    · exact Or.inr ⟨a1, a2, a3, zg_trans z2 a4, a5⟩
section CUP
variable {K : zx_Kt} {RJ : zx_RJ} {o tl nx : Nat} {bs os : List Nat} {Z : zx_Zt} {cc sc : Nat}
theorem t_cuF (l : Launch) (d : Nat) (g : g_Main K RJ o tl nx) {e : Int32 × Nat} {k : Nat} {I : zi_I} (h0 : e.1 ≠ 0) (h11 : I o 11 = -1) (h2 : e.1 ≠ 1 → I (o + 7) 2 = nI e.2) (hf : ∃ L, a_Row I (o + 5) 2000 L)
    (q : ∀ pc S I2 x1 x2, cu_leaf (.inl e) o nx pc S I I2 → zy_X l (d + 5) cc sc M_Main_unpack Z K RJ pc [(0, .ref o), (1, .int x1), (2, .int x2)] S I2) :
    zy_X l (d + 5) cc sc M_Main_unpack Z K RJ 33 [(0, .ref o), (1, .int e.1), (2, .int (nI k))] [] I := by
  have z : zg o [10, 11] (cs_S o nx) I (zx_u2 I o 11 (I (o + 7) 2)) := zg_fld (by simp <;> omega)
  have f1 : e.1 = 1 → zy_X l (d + 5) cc sc M_Main_unpack Z K RJ 70 [(0, .ref o), (1, .int e.1), (2, .int (nI k))] [] I := fun c => q 70 [] I _ _ ⟨zg_refl, hf, Or.inl ⟨c, rfl, rfl, h11⟩⟩
  have f2 : ¬ e.1 = 1 → zy_X l (d + 5) cc sc M_Main_unpack Z K RJ 96 [(0, .ref o), (1, .int e.1), (2, .int (nI k))] [.int e.1] (zx_u2 I o 11 (I (o + 7) 2)) := fun c => q 96 [.int e.1] _ _ _ ⟨z, by
    obtain ⟨L, hL⟩ := hf
    exact ⟨L, hL.keep (zf_u2 (S := [o]) (by simp <;> omega)) (by simp <;> omega) (by simp <;> omega)⟩, Or.inr ⟨c, h0, rfl, rfl, by rw [zx_u2_s]; exact h2 c⟩⟩
  refine y_Main_unpack_33 l (d + 5) o _ _ g.k g.bR (by omega) g.r.b.1 ⟨fun _ => ⟨fun c => ⟨fun x => absurd x h0, fun _ => f2 c⟩, f1⟩, fun _ => ⟨fun _ => ⟨fun c => ⟨fun x => absurd x h0, fun _ => f2 c⟩, f1⟩, fun x => absurd x h0⟩⟩
def cu_on (bs : List Nat) (j : Nat) (v : st_V × Nat) : rd_R st_V := if 8 * bs.length ≤ v.2 then .inr v else rd_all bs j v.1.1 v.1.2.1 v.1.2.2 v.2
theorem t_cu33 (l : Launch) (d : Nat) (g : g_Main K RJ o tl nx) :
    ∀ (j k : Nat) (v : st_V × Nat) (I : zi_I), k + j = 400 → 64 * k ≤ v.2 → 24 * v.1.2.1 ≤ v.2 → v.2 ≤ 8 * bs.length → a_Row I (o + 1) 400 bs → a_Row I (o + 3) 4600 os → I o 11 = -1 → I (o + 7) 1 = nI v.2 → a_Row I (o + 5) 2000 v.1.1 → I o 10 = nI v.1.2.1 → (0 < v.1.2.1 → a_Blk I nx v.1.2.2 ∧ bk_ok v.1.2.2) →
      (∀ pc S I2 x1 x2, cu_leaf (cu_on bs j v) o nx pc S I I2 → zy_X l (d + 5) cc sc M_Main_unpack Z K RJ pc [(0, .ref o), (1, .int x1), (2, .int x2)] S I2) →
      zy_X l (d + 5) cc sc M_Main_unpack Z K RJ 33 [(0, .ref o), (1, .int 0), (2, .int (nI k))] [] I := by
  have hd := g.d
  intro j
  induction j with
  | zero =>
    intro k v I hk hkp hn hp a ao h11 h7 af h10 hB q
    have hbl := a.1
    omega
  | succ j ih =>
    intro k v I hk hkp hn hp a ao h11 h7 af h10 hB q
    have hbl := a.1
    refine y_Main_unpack_33 l (d + 5) o _ _ g.k g.bR (by omega) g.r.b.1 ⟨fun c => ?_, fun _ => ⟨fun x => absurd rfl x, fun _ => ?_⟩⟩
    · rw [show (400 : Int32) = nI 400 from rfl, nI_leI (by omega) (by omega)] at c
      omega
    · refine zi_mono (c_isAtEnd l (d + 5) g.r.b a h7 (by omega)) ?_
      rintro r I2 ⟨rfl, rfl⟩
      refine ⟨_, rfl, fun c => ?_, fun c => ?_⟩
      · have ce : 8 * bs.length ≤ v.2 := by
          by_cases h : 8 * bs.length ≤ v.2
          · exact h
          · rw [if_neg h] at c
            exact absurd rfl c
        unfold cu_on at q
        rw [if_pos ce] at q
        have z9 : zf [o] I2 (zx_u2 I2 o 9 (I2 o 10)) := zf_u2 (by simp <;> omega)
        refine ⟨fun _ => ⟨fun _ => ⟨fun h0 => ?_, fun h0 => ?_⟩, fun x => absurd rfl x⟩, fun x => absurd x (by decide)⟩
        · rw [h10, show (0 : Int32) = nI 0 from rfl, nI_leI (by omega) (by omega)] at h0
          refine y_Main_unpack_116 l (d + 5) o _ _ g.k g.oR (by omega) g.ou.1 ?_
          refine zi_mono (c_takeFresh (os := os) (fs := v.1.1) l (d + 3) g (ao.keep z9 (by simp <;> omega) (by simp <;> omega)) (af.keep z9 (by simp <;> omega) (by simp <;> omega))) ?_
          rintro r I3 ⟨rfl, a3, z3⟩
          refine ⟨rfl, ?_⟩
          rw [a3.2.1]
          refine q 127 _ I3 _ _ ⟨?_, ?_, by omega, af.keep (zf_trans (S := [o, o + 3, o + 4]) (zf_mono z9 (by simp <;> omega)) (zf_mono z3 (by simp <;> omega))) (by simp <;> omega) (by simp <;> omega), Or.inl ⟨by omega, rfl, rfl, a3, zg_trans (zg_fld (by simp <;> omega)) ⟨fun i _ => zf_at z3 (by simp <;> omega) i, zf_mono z3 (fun x hx => ?_)⟩⟩⟩
          · rw [zf_at z3 (by simp <;> omega), zx_u2_k (by decide)]
            exact h11
          · rw [zf_at z3 (by simp <;> omega), zx_u2_s]
            exact h10
          · unfold cu_S
            simp only [List.mem_cons, List.not_mem_nil, or_false] at hx ⊢
            omega
        · rw [h10, show (0 : Int32) = nI 0 from rfl, nI_leI (by omega) (by omega)] at h0
          obtain ⟨hB1, hB2⟩ := hB (by omega)
          refine q 113 _ _ _ _ ⟨?_, ?_, by omega, af.keep z9 (by simp <;> omega) (by simp <;> omega), Or.inr ⟨by omega, rfl, rfl, zg_fld (by simp <;> omega), hB1.keep hB2.T z9 (fun x hx => ?_), hB2⟩⟩
          · rw [zx_u2_k (by decide)]
            exact h11
          · rw [zx_u2_s]
            exact h10
          · simp only [List.mem_cons, List.not_mem_nil, or_false] at hx
            omega
      · have ce : ¬ 8 * bs.length ≤ v.2 := fun h => by
          rw [if_pos h] at c
          exact absurd c (by decide)
        unfold cu_on at q
        rw [if_neg ce, rd_all_s] at q
        refine zi_mono (c_readStream (bs := bs) (p := v.2) (n := v.1.2.1) (fs := v.1.1) (B := v.1.2.2) l d g (by omega) a h7 hp af h10 hB) ?_
        rintro r I3 ⟨hr, z⟩
        have z' : zg o [10, 11] (cs_S o nx) I2 I3 := zg_mono z (by simp <;> omega) (fun _ h => h)
        have k11 : I3 o 11 = -1 := by rw [z.1 11 (by simp <;> omega)]; exact h11
        have kk : ∀ x, x ∉ o :: cs_S o nx → ∀ i, I3 x i = I2 x i := fun x hx i => zf_at z.2 hx i
        cases e : rd_stream bs v.1.1 v.1.2.1 v.1.2.2 v.2 with
        | inl f =>
          rw [e] at hr q
          obtain ⟨rfl, r1, r2, r3, r4⟩ := hr
          refine ⟨_, rfl, ?_⟩
          rw [nI_1]
          exact t_cuF l d g r1 k11 r2 r4 (fun pc S I4 x1 x2 hl => q pc S I4 x1 x2 (hl.pre z'))
        | inr w =>
          obtain ⟨g1, g2⟩ := rd_stream_ge e
          rw [e] at hr q
          obtain ⟨rfl, r1, r2, r3, r4, r5⟩ := hr
          refine ⟨_, rfl, ?_⟩
          rw [nI_1]
          exact ih (k + 1) w I3 (by omega) (by omega) (by omega) r2 (a.keep z.2 (by rw [List.mem_cons, cs_mem]; omega) (by rw [List.mem_cons, cs_mem]; omega)) (ao.keep z.2 (by rw [List.mem_cons, cs_mem]; omega) (by rw [List.mem_cons, cs_mem]; omega)) k11 r1 r3 r4 r5 (fun pc S I4 x1 x2 hl => q pc S I4 x1 x2 (hl.pre z'))
theorem t_cu0 (l : Launch) (d : Nat) {I : zi_I} {fs : List Nat} {B : bk_B} (g : g_Main K RJ o tl nx) (a : a_Row I (o + 1) 400 bs) (ao : a_Row I (o + 3) 4600 os) (af : a_Row I (o + 5) 2000 fs)
    (q : ∀ pc S I2 x1 x2, cu_leaf (rd_all bs 400 [] 0 B 0) o nx pc S I I2 → zy_X l (d + 5) cc sc M_Main_unpack Z K RJ pc [(0, .ref o), (1, .int x1), (2, .int x2)] S I2) :
    zy_X l (d + 5) cc sc M_Main_unpack Z K RJ 0 [(0, .ref o)] [] I := by
  have hd := g.d
  have hbl := a.1
  have z1 : zg o [10, 11] (cs_S o nx) I (zx_u2 (zx_u2 I o 11 (-1)) o 10 0) := zg_trans (zg_fld (by simp <;> omega)) (zg_fld (by simp <;> omega))
  have nn : ∀ x, x ≠ o → ¬ (x = o + 5 ∨ x = o + 6) → x < o + 7 → x ∉ o :: cs_S o nx := fun x h1 h2 h3 => by
    rw [List.mem_cons, cs_mem]
    omega
  have y1 : zf [o] I (zx_u2 (zx_u2 I o 11 (-1)) o 10 0) := zf_trans (zf_u2 (by simp <;> omega)) (zf_u2 (by simp <;> omega))
  refine y_Main_unpack_0 l (d + 5) o g.k g.fR (by omega) g.f.1 g.bR (by omega) g.r.b.1 (zi_mono (c_Row_cut (m := 0) l (d + 5) g.f (af.keep y1 (by simp <;> omega) (by simp <;> omega)) (by decide)) ?_)
  rintro r I2 ⟨rfl, a2, z2⟩
  rw [List.take_zero] at a2
  refine ⟨rfl, zi_mono (c_goTo (x := 0) l (d + 5) g.r.b.1) ?_⟩
  rintro r I3 ⟨rfl, rfl⟩
  have z3 : zf [o + 7] I2 (zx_u2 I2 (o + 7) 1 0) := zf_u2 (by simp <;> omega)
  have zz : zg o [10, 11] (cs_S o nx) I (zx_u2 I2 (o + 7) 1 0) := by
    refine zg_trans z1 (zg_trans (I2 := I2) ⟨fun i _ => zf_at z2 (by simp <;> omega) i, zf_mono z2 (fun x hx => ?_)⟩ ⟨fun i _ => zf_at z3 (by simp <;> omega) i, zf_mono z3 (fun x hx => ?_)⟩)
    · rw [List.mem_cons, cs_mem]
      simp only [List.mem_cons, List.not_mem_nil, or_false] at hx
      omega
    · rw [List.mem_cons, cs_mem]
      simp only [List.mem_cons, List.not_mem_nil, or_false] at hx
      omega
  have e11 : (zx_u2 I2 (o + 7) 1 0) o 11 = -1 := by rw [zf_at z3 (by simp <;> omega), zf_at z2 (by simp <;> omega), zx_u2_k (by decide), zx_u2_s]
  have e10 : (zx_u2 I2 (o + 7) 1 0) o 10 = nI 0 := by rw [zf_at z3 (by simp <;> omega), zf_at z2 (by simp <;> omega), zx_u2_s]; rfl
  have aa : a_Row (zx_u2 I2 (o + 7) 1 0) (o + 1) 400 bs := a.keep zz.2 (nn _ (by omega) (by omega) (by omega)) (nn _ (by omega) (by omega) (by omega))
  have aao : a_Row (zx_u2 I2 (o + 7) 1 0) (o + 3) 4600 os := ao.keep zz.2 (nn _ (by omega) (by omega) (by omega)) (nn _ (by omega) (by omega) (by omega))
  refine ⟨rfl, zi_mono (c_readStream (bs := bs) (p := 0) (n := 0) (fs := []) (B := B) l d g (by omega) aa (by rw [zx_u2_s]; rfl) (by omega) (a2.keep z3 (by simp <;> omega) (by simp <;> omega)) e10 (fun h => absurd h (by omega))) ?_⟩
  rintro r I4 ⟨hr, z⟩
  have z' : zg o [10, 11] (cs_S o nx) I I4 := zg_trans zz (zg_mono z (by simp <;> omega) (fun _ h => h))
  have k11 : I4 o 11 = -1 := by rw [z.1 11 (by simp <;> omega)]; exact e11
  rw [rd_all_s] at q
  cases e : rd_stream bs [] 0 B 0 with
  | inl f =>
    rw [e] at hr q
    obtain ⟨rfl, r1, r2, r3, r4⟩ := hr
    refine ⟨_, rfl, ?_⟩
    exact t_cuF (k := 1) l d g r1 k11 r2 r4 (fun pc S I5 x1 x2 hl => q pc S I5 x1 x2 (hl.pre z'))
  | inr w =>
    obtain ⟨g1, g2⟩ := rd_stream_ge e
    rw [e] at hr q
    obtain ⟨rfl, r1, r2, r3, r4, r5⟩ := hr
    refine ⟨_, rfl, ?_⟩
    exact t_cu33 l d g 399 1 w I4 (by omega) (by omega) (by omega) r2 (aa.keep z.2 (nn _ (by omega) (by omega) (by omega)) (nn _ (by omega) (by omega) (by omega))) (aao.keep z.2 (nn _ (by omega) (by omega) (by omega)) (nn _ (by omega) (by omega) (by omega))) k11 r1 r3 r4 r5 (fun pc S I5 x1 x2 hl => q pc S I5 x1 x2 (hl.pre z'))
end CUP
