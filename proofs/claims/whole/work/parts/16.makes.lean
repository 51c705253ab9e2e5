/-! Cells that are made. -/
def zx_push (h : zx_H) (kd : Nat × Nat) : zx_H := ((h.1.1 + 1, fun k => if k = h.1.1 + 1 then kd else h.1.2 k), (fun q i => if q = h.1.1 + 1 then 0 else h.2.1 q i), (fun q i => if q = h.1.1 + 1 then 0 else h.2.2.1 q i), (fun q i => if q = h.1.1 + 1 then 0 else h.2.2.2 q i))
theorem zx_enc_push {G : zx_G} {α : Nat → Nat} {h : zx_H} {kd : Nat × Nat} {k : Nat} (hk : k ≠ h.1.1 + 1) : zx_enc G α (zx_push h kd) k = zx_enc G α h k := by
  unfold zx_enc zx_push
  simp only [if_neg hk]
theorem zx_wl_push {G : zx_G} {α : Nat → Nat} {h : zx_H} {kd : Nat × Nat} : zx_wl G α (zx_push h kd) = zx_wl G α h ++ [(α (h.1.1 + 1), zx_enc G α (zx_push h kd) (h.1.1 + 1))] := by
  unfold zx_wl
  show (List.range (h.1.1 + 1)).map _ = _
  rw [List.range_succ, List.map_append]
  congr 1
  apply List.map_congr_left
  intro k hk
  have := List.mem_range.mp hk
  rw [zx_enc_push (by omega)]
theorem zx_ok_push {h : zx_H} {kd : Nat × Nat} (hok : zx_ok h) (hl : kd.2 < 2 ^ 31) : zx_ok (zx_push h kd) := by
  intro k hk
  by_cases he : k = h.1.1 + 1
  · subst he
    simp only [zx_push, if_pos]
    exact ⟨by omega, Nat.le_refl _, hl⟩
  · simp only [zx_push, if_neg he] at hk ⊢
    obtain ⟨a, b, c⟩ := hok k hk
    exact ⟨a, by omega, c⟩
theorem zx_fr_push {α : Nat → Nat} {b : Nat} {h : zx_H} {kd : Nat × Nat} (hf : zx_fr α b h) : zx_fr α (b + 1) (zx_push h kd) := by
  intro k
  have := hf k
  show α (k + 1) + (h.1.1 + 1) = k + (b + 1)
  omega
/-- the world with one more cell, at the next address -/
theorem zx_R_push {D : va_G} {G : zx_G} {α : Nat → Nat} {A : Nat → Prop} {kc : Nat} {h : zx_H} {s : State} {H H1 : Heap} {locs : List Loc} {kd : Nat × Nat} (R : zx_R D G α A true kc h s H locs) (hsz : H.size = s.heap.size + kc) (hl : kd.2 < 2 ^ 31)
    (e1 : va_at D zx_cl (α (h.1.1 + 1), zx_enc G α (zx_push h kd) (h.1.1 + 1)) H1) (z1 : H1.size = H.size + 1) (o1 : ∀ q, q < H.size → H1[q]? = H[q]?) : zx_R D G α A true (kc + 1) (zx_push h kd) s H1 locs := by
  obtain ⟨hK, hA, hP, hD, hS, hok, hfr⟩ := R
  obtain ⟨f1, f2⟩ := hfr rfl
  have ha : α (h.1.1 + 1) = H.size := by have := f1 h.1.1; omega
  have hk : ∀ (k : Nat) (x : Nat × va_E), (zx_wl G α h)[k]? = some x → H1[x.1]? = H[x.1]? := fun k x hx => o1 x.1 ((hP k x hx).lt)
  refine ⟨hK, hA, ?_, ?_, ⟨by have := hS.1; omega, fun x h1 h2 => (o1 x (Nat.lt_of_lt_of_le h1 hS.1)).trans (hS.2.1 x h1 h2), hS.2.2⟩, zx_ok_push hok hl, fun _ => ⟨zx_fr_push f1, ?_⟩⟩
  · rw [zx_wl_push]
    refine (hP.kept hk).app (fun k x hx => ?_)
    have hz : k < 1 := (List.getElem?_eq_some_iff.mp hx).1
    rw [show k = 0 by omega] at hx
    cases hx
    exact e1
  · rw [zx_wl_push, ha]
    exact hD.push hP rfl (hA _ hS.1)
  · show kc + 1 ≤ h.1.1 + 1
    omega
section ZN
variable {l : Launch} {rm : Room} {M : zx_M} {kc ks : Nat} {Z : zx_Zt} {pc : Nat} {L : List (Nat × Value)} {S : List Value} {h : zx_H}
set_option maxHeartbeats 200000 in
theorem zx_new {idx ci N : Nat} {C : String} {T : u_T} (ty : Nat → FieldType) (hcl : zx_cl[ci]? = some (C, T, N)) (hin : ∀ w ∈ u_ws C T N, w ∈ zx_T) (hty : ∀ k, k < N → parseFieldDescriptor (T k).2.2.1 = some (ty k)) (hft : (zx_ft ci).length = N) (hdf : ∀ j, j < N → defaultValue (ty j) = if (zx_ft ci).getD j false = true then Value.null else .int 0)
    (w1 : Cond.classLink M.1.cls idx C ∈ zx_T) (w2 : Cond.instantiable C N ∈ zx_T) (w3 : Cond.initialized C ∈ zx_T) (h1 : kc + 1 ≤ rm.cells) (h2 : ks + N ≤ rm.slots) (d : decode M.2.1 pc = .ok (.new idx, 3))
    (k : zx_X l rm M true (kc + 1) (ks + N) Z (pc + 3) L (.ref (h.1.1 + 1) :: S) (zx_push h (ci + 5, 0))) : zx_X l rm M true kc ks Z pc L S h := by
  intro D G α A p e s m args below meth c H locs ls C0 R hl T0 hT X
  have hsz : H.size = s.heap.size + kc := zx_size R (by rw [← hT]; exact X.heapSize) rfl
  have hts := C0.2.2.2.2.2.2.1
  have hKn := R.1.1.1 ci _ hcl
  have f1 := (R.2.2.2.2.2.2 rfl).1
  have ha : α (h.1.1 + 1) = H.size := by have := f1 h.1.1; omega
  suffices hW : W p l e rm s m args below meth c H locs kc ks (Z D G α A s args below) (F0 m pc ls (S.map (zx_cv α))) from hW T0 hT X
  refine W.newcK C0.1 C0.2.1 C0.2.2.2.2.2.1 (hts _ w1) (hts _ w2) (hts _ w3) rfl d h1 h2 hKn.2.1 rfl (fun H1 kC hkC e1 z1 o1 => ?_)
  have hk := k D G α A p e s m args below meth c H1 locs ls C0 (zx_R_push R hsz (show 0 < 2 ^ 31 by decide) ?_ z1 o1) hl
  · rw [← ha]
    exact hk
  · rw [zx_enc_obj (ci := ci) (by simp [zx_push]), ha]
    refine ⟨_, hcl, (u_born ty hts hin hKn hkC e1 hty).to (fun j hj => ?_)⟩
    rw [hdf j hj]
    have hz := zx_fs_at (ft := zx_ft ci) (α := α) (I := (zx_push h (ci + 5, 0)).2.1 (h.1.1 + 1)) (R := (zx_push h (ci + 5, 0)).2.2.1 (h.1.1 + 1)) (j := j) (by omega)
    have hz2 : vp_V (zx_fs (zx_ft ci) α ((zx_push h (ci + 5, 0)).2.1 (h.1.1 + 1)) ((zx_push h (ci + 5, 0)).2.2.1 (h.1.1 + 1))) j = if (zx_ft ci).getD j false = true then zx_nul α ((zx_push h (ci + 5, 0)).2.2.1 (h.1.1 + 1) j) else .int ((zx_push h (ci + 5, 0)).2.1 (h.1.1 + 1) j) := by
      unfold vp_V
      rw [List.getD_eq_getElem?_getD, hz]
      rfl
    rw [hz2]
    simp [zx_push, zx_nul]
set_option maxHeartbeats 200000 in
theorem zx_newA {tag n : Nat} {x : Int32} {at0 : ArrayType} (w : Cond.arrayClass (newarray.typeOf at0) ∈ zx_T) (hx : x = nI n) (hn : n < 2 ^ 20) (htag : (at0 = .int ∧ tag = 0) ∨ (at0 = .boolean ∧ tag = 1) ∨ (at0 = .long ∧ tag = 2)) (h1 : kc + 1 ≤ rm.cells) (h2 : ks + n ≤ rm.slots) (d : decode M.2.1 pc = .ok (.newarray at0, 2))
    (k : zx_X l rm M true (kc + 1) (ks + n) Z (pc + 2) L (.ref (h.1.1 + 1) :: S) (zx_push h (tag, n))) : zx_X l rm M true kc ks Z pc L (.int x :: S) h := by
  intro D G α A p e s m args below meth c H locs ls C0 R hl T0 hT X
  have hsz : H.size = s.heap.size + kc := zx_size R (by rw [← hT]; exact X.heapSize) rfl
  have hts := C0.2.2.2.2.2.2.1
  have f1 := (R.2.2.2.2.2.2 rfl).1
  have ha : α (h.1.1 + 1) = H.size := by have := f1 h.1.1; omega
  subst hx
  have hcl : (nI n).toNatClampNeg = n := nI_clamp (by omega)
  suffices hW : W p l e rm s m args below meth c H locs kc ks (Z D G α A s args below) (F0 m pc ls ((.int (nI n) :: S).map (zx_cv α))) from hW T0 hT X
  refine va_newaK (n := nI n) (rest := S.map (zx_cv α)) C0.1 C0.2.1 (hts _ w) rfl d rfl (nI_pos (by omega)) hcl ?_ h1 h2 rfl (fun H1 cA e1 z1 o1 hAr hNm => ?_)
  · rcases htag with ⟨rfl, -⟩ | ⟨rfl, -⟩ | ⟨rfl, -⟩ <;> (simp only [newarray.typeOf, componentBytes]; omega)
  have hk := k D G α A p e s m args below meth c H1 locs ls C0 (zx_R_push R hsz (show n < 2 ^ 31 by omega) ?_ z1 o1) hl
  · rw [← ha]
    exact hk
  · rw [ha]
    have hK2 := R.1.1.2
    rcases htag with ⟨rfl, rfl⟩ | ⟨rfl, rfl⟩ | ⟨rfl, rfl⟩
    · rw [zx_enc_int (n := n) (by simp [zx_push])]
      have hg : cA = G.1 := Option.some.inj (hNm.symm.trans (hK2 0 _ rfl).2)
      subst hg
      show H1[H.size]? = some (vp_cell _ _)
      rw [e1, vp_cell_i]
      simp [zx_push, newarray.typeOf, defaultValue]
    · rw [zx_enc_bool (n := n) (by simp [zx_push])]
      have hg : cA = G.2.1 := Option.some.inj (hNm.symm.trans (hK2 1 _ rfl).2)
      subst hg
      show H1[H.size]? = some (vp_cell _ _)
      rw [e1, vp_cell_i]
      simp [zx_push, newarray.typeOf, defaultValue]
    · rw [zx_enc_long (n := n) (by simp [zx_push])]
      have hg : cA = G.2.2.1 := Option.some.inj (hNm.symm.trans (hK2 2 _ rfl).2)
      subst hg
      show H1[H.size]? = some (vp_cell _ _)
      rw [e1, vp_cell_l]
      simp [zx_push, newarray.typeOf, defaultValue]
set_option maxHeartbeats 200000 in
theorem zx_newQ {idx n : Nat} {x : Int32} (w1 : Cond.classLink M.1.cls idx zx_CQ ∈ zx_T) (w2 : Cond.arrayOver (.object zx_CQ) ∈ zx_T) (hx : x = nI n) (hn : n < 2 ^ 20) (h1 : kc + 1 ≤ rm.cells) (h2 : ks + n ≤ rm.slots) (d : decode M.2.1 pc = .ok (.anewarray idx, 3))
    (k : zx_X l rm M true (kc + 1) (ks + n) Z (pc + 3) L (.ref (h.1.1 + 1) :: S) (zx_push h (3, n))) : zx_X l rm M true kc ks Z pc L (.int x :: S) h := by
  intro D G α A p e s m args below meth c H locs ls C0 R hl T0 hT X
  have hsz : H.size = s.heap.size + kc := zx_size R (by rw [← hT]; exact X.heapSize) rfl
  have hts := C0.2.2.2.2.2.2.1
  have f1 := (R.2.2.2.2.2.2 rfl).1
  have ha : α (h.1.1 + 1) = H.size := by have := f1 h.1.1; omega
  subst hx
  have hcl : (nI n).toNatClampNeg = n := nI_clamp (by omega)
  suffices hW : W p l e rm s m args below meth c H locs kc ks (Z D G α A s args below) (F0 m pc ls ((.int (nI n) :: S).map (zx_cv α))) from hW T0 hT X
  refine W.anew (n := nI n) (rest := S.map (zx_cv α)) C0.1 C0.2.1 C0.2.2.2.2.2.1 (hts _ w1) (hts _ w2) rfl d rfl (nI_pos (by omega)) (by rw [hcl]; omega) h1 (by rw [hcl]; exact h2) (fun cA kA comp g1 g2 g3 g4 => ?_)
  rw [hcl]
  have hk := k D G α A p e s m args below meth c (H.push { cls := cA, slots := Array.replicate n .null, vm := .none }) locs ls C0 (zx_R_push R hsz (show n < 2 ^ 31 by omega) ?_ (by simp) (fun q hq => by rw [Array.getElem?_push, if_neg (Nat.ne_of_lt hq)])) hl
  · rw [← ha]
    exact hk
  · rw [ha, zx_enc_q3 (n := n) (by simp [zx_push])]
    have hK2 := R.1.1.2 3 _ rfl
    obtain ⟨kA2, comp2, q1, q2, q3, q4⟩ := hK2.2
    have hg : cA = G.2.2.2.1 := Option.some.inj (g1.symm.trans q4)
    subst hg
    show (H.push _)[H.size]? = some (vp_cell _ _)
    rw [Array.getElem?_push_size, arrV_new, vp_cell_q]
    simp [zx_push, zx_opt, va_rf]
/-- a reference into an array of Codes -/
theorem zx_aast3 {fl : Bool} {q n v ci N : Nat} {T : u_T} {x : Int32} (j : Nat) (kd : h.1.2 q = (3, n)) (kv : (h.1.2 v).1 = ci + 5) (hci : ci < 90) (hcl : zx_cl[ci]? = some (zx_CQ, T, N)) (hx : x = nI j) (hj : j < n) (nz : v ≠ 0) (d : decode M.2.1 pc = .ok (.aastore, 1)) (k : zx_X l rm M fl kc ks Z (pc + 1) L S (zx_upR h q j v)) : zx_X l rm M fl kc ks Z pc L (.ref v :: .int x :: .ref q :: S) h := by
  intro D G α A p e s m args below meth c H locs ls C R hl
  obtain ⟨hK, hA, hP, hD, hS, hok, hfr⟩ := R
  obtain ⟨o1, o2, o3⟩ := hok q (by rw [kd]; omega)
  obtain ⟨v1, v2, -⟩ := hok v (by omega)
  rw [kd] at o3
  have he : (zx_wl G α h)[q - 1]? = some (α q, .inl (G.2.2.2.1, n, .inr (.inr (.inr (.inr (fun j => zx_opt α (h.2.2.1 q j))))))) := by rw [zx_wl_at o1 o2, zx_enc_q3 kd]
  have hv : (zx_wl G α h)[v - 1]? = some (α v, .inr (ci, zx_fs (zx_ft ci) α (h.2.1 v) (h.2.2.1 v))) := by rw [zx_wl_at v1 v2, zx_enc_obj kv]
  subst hx
  refine va_astq C.1 C.2.1 hK.1 hP hD hS (q - 1) 3 (v - 1) ci (r := (zx_CQ, T, N)) he rfl hv hcl (vp_in_nI hj o3) d (fun H1 locs1 hP1 hD1 hS1 => ?_)
  have hset : (zx_wl G α h).set (q - 1) (α q, .inl (G.2.2.2.1, n, .inr (.inr (.inr (.inr (va_up (fun j => zx_opt α (h.2.2.1 q j)) (nI j).toNatClampNeg (some (α v)))))))) = zx_wl G α (zx_upR h q j v) := by
    rw [nI_clamp (by omega)]
    rw [show (va_up (fun j => zx_opt α (h.2.2.1 q j)) j (some (α v))) = (fun i => zx_opt α ((zx_upR h q j v).2.2.1 q i)) from by
      funext i
      by_cases hi : i = j
      · simp [va_up, zx_upR, zx_u2, hi, zx_opt, nz]
      · simp [va_up, zx_upR, zx_u2, hi]]
    rw [← zx_enc_q3 (G := G) (α := α) (h := zx_upR h q j v) kd]
    exact zx_wl_set rfl (fun _ _ => rfl) (fun q hq => zx_u2_off hq) (fun _ _ => rfl) o1 o2
  rw [hset] at hP1 hD1
  exact k D G α A p e s m args below meth c H1 locs1 ls C ⟨hK, hA, hP1, hD1, hS1, hok, hfr⟩ hl
end ZN
