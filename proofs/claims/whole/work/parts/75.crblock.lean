/-! The class reads a block. -/
def rb_S (o br rf b : Nat) : List Nat := br :: rf :: (rf + 1) :: (List.range' o 30 ++ List.range' b 11)
theorem rb_mem {o br rf b q : Nat} : q ∈ rb_S o br rf b ↔ q = br ∨ q = rf ∨ q = rf + 1 ∨ (o ≤ q ∧ q < o + 30) ∨ (b ≤ q ∧ q < b + 11) := by
  unfold rb_S
  rw [List.mem_cons, List.mem_cons, List.mem_cons, List.mem_append, List.mem_range'_1, List.mem_range'_1]
/-- how the reading of a block ends -/
def rb_post (rd : rd_R (bk_B × List Nat)) (fs : List Nat) (n8 p br rf b : Nat) (r : Option Value) (I2 : zi_I) : Prop :=
  match rd with
  | .inl e => r = some (.int e.1) ∧ I2 br 2 = nI e.2 ∧ e.1 < 0 ∧ (∃ p2, p2 < 2 ^ 20 ∧ I2 br 1 = nI p2) ∧ a_Row I2 rf 2000 fs
  | .inr v => (2000 < fs.length + v.1.2.length ∧ r = some (.int 1) ∧ (∃ p2, p2 < 2 ^ 20 ∧ I2 br 1 = nI p2) ∧ a_Row I2 rf 2000 fs) ∨ (¬ 2000 < fs.length + v.1.2.length ∧ cr_fn (fun k => v.1.2.getD k 0) 0 v.1.2.length 65535 = v.1.1.ch ∧ r = some (.int 0) ∧ I2 br 1 = nI v.2 ∧ v.2 ≤ n8 ∧ a_Row I2 rf 2000 (fs ++ v.1.2) ∧ a_Blk I2 b v.1.1 ∧ bk_ok v.1.1) ∨ (¬ 2000 < fs.length + v.1.2.length ∧ ¬ cr_fn (fun k => v.1.2.getD k 0) 0 v.1.2.length 65535 = v.1.1.ch ∧ r = some (.int (-14)) ∧ I2 br 2 = nI p ∧ (∃ p2, p2 < 2 ^ 20 ∧ I2 br 1 = nI p2) ∧ a_Row I2 rf 2000 fs)
section RB
variable {K : zx_Kt} {RJ : zx_RJ} {o br ro N rf b p lim : Nat} {bs fs : List Nat}
/-- with a fault to the end -/
theorem t_rb177 (l : Launch) (d : Nat) {Q : zi_Q} {I : zi_I} {x2 x4 y : Int32} {L : List Nat} (gf : g_Row K RJ rf 2000) (hfs : fs.length ≤ 2000) (hL : L.take fs.length = fs) (a : a_Row I rf 2000 L) (hy : ¬ y = 0) (q : ∀ I2, a_Row I2 rf 2000 fs → zf [rf, rf + 1] I I2 → Q (some (.int y)) I2) :
    zi_X l (zx_rm (d + 1) 0 0) M_BlockReader_readBlock K RJ Q 177 [(0, .ref o), (1, .ref b), (2, .int x2), (3, .ref rf), (4, .int x4), (5, .int (nI fs.length)), (6, .int y)] [] I := by
  refine r_BlockReader_readBlock_177 l d o b _ rf _ _ _ gf.1 ⟨fun c => absurd c hy, fun _ => zi_mono (c_Row_cut l d gf a (by omega)) ?_⟩
  rintro r I2 ⟨rfl, v1, v2⟩
  rw [hL] at v1
  exact ⟨rfl, r_BlockReader_readBlock_188 l d o b _ rf _ _ _ (q I2 v1 v2)⟩
theorem t_rb140 (l : Launch) (d : Nat) {Q : zi_Q} {I : zi_I} {x2 x4 x6 y : Int32} {L : List Nat} (g : g_BR K RJ o br ro N) (gb : g_Block K RJ b) (gf : g_Row K RJ rf 2000) (hfs : fs.length ≤ 2000) (hL : L.take fs.length = fs) (a : a_Row I rf 2000 L) (hy : ¬ y = 0) (q : ∀ I2, a_Row I2 rf 2000 fs → zf [rf, rf + 1] I I2 → Q (some (.int y)) I2) :
    zi_X l (zx_rm (d + 1) 0 0) M_BlockReader_readBlock K RJ Q 140 [(0, .ref o), (1, .ref b), (2, .int x2), (3, .ref rf), (4, .int x4), (5, .int (nI fs.length)), (6, .int x6)] [.int y] I :=
  r_BlockReader_readBlock_140 l d o b _ rf _ _ _ _ gf.1 gb.k g.k g.bR g.b0 g.b.1 ⟨fun _ => t_rb177 l d gf hfs hL a hy q, fun c => absurd c hy⟩
theorem t_rb106 (l : Launch) (d : Nat) {Q : zi_Q} {I : zi_I} {x2 x4 x6 y : Int32} (g : g_BR K RJ o br ro N) (gb : g_Block K RJ b) (gf : g_Row K RJ rf 2000) (hfs : fs.length ≤ 2000) (a : a_Row I rf 2000 fs) (hy : ¬ y = 0) (q : ∀ I2, a_Row I2 rf 2000 fs → zf [rf, rf + 1] I I2 → Q (some (.int y)) I2) :
    zi_X l (zx_rm (d + 1) 0 0) M_BlockReader_readBlock K RJ Q 123 [(0, .ref o), (1, .ref b), (2, .int x2), (3, .ref rf), (4, .int x4), (5, .int (nI fs.length)), (6, .int x6)] [.int y] I ∧
    zi_X l (zx_rm (d + 1) 0 0) M_BlockReader_readBlock K RJ Q 106 [(0, .ref o), (1, .ref b), (2, .int x2), (3, .ref rf), (4, .int x4), (5, .int (nI fs.length)), (6, .int x6)] [.int y] I ∧
    zi_X l (zx_rm (d + 1) 0 0) M_BlockReader_readBlock K RJ Q 88 [(0, .ref o), (1, .ref b), (2, .int x2), (3, .ref rf), (4, .int x4), (5, .int (nI fs.length)), (6, .int x6)] [.int y] I ∧
    zi_X l (zx_rm (d + 1) 0 0) M_BlockReader_readBlock K RJ Q 71 [(0, .ref o), (1, .ref b), (2, .int x2), (3, .ref rf), (4, .int x4), (5, .int (nI fs.length)), (6, .int x6)] [.int y] I ∧
    zi_X l (zx_rm (d + 1) 0 0) M_BlockReader_readBlock K RJ Q 54 [(0, .ref o), (1, .ref b), (2, .int x2), (3, .ref rf), (4, .int x4), (5, .int (nI fs.length)), (6, .int x6)] [.int y] I ∧
    zi_X l (zx_rm (d + 1) 0 0) M_BlockReader_readBlock K RJ Q 37 [(0, .ref o), (1, .ref b), (2, .int x2), (3, .ref rf), (4, .int x4), (5, .int (nI fs.length)), (6, .int x6)] [.int y] I := by
  have s140 : ∀ x6, zi_X l (zx_rm (d + 1) 0 0) M_BlockReader_readBlock K RJ Q 140 [(0, .ref o), (1, .ref b), (2, .int x2), (3, .ref rf), (4, .int x4), (5, .int (nI fs.length)), (6, .int x6)] [.int y] I := fun x6 => t_rb140 l d g gb gf hfs (by rw [List.take_length]) a hy q
  have s123 : ∀ x6, zi_X l (zx_rm (d + 1) 0 0) M_BlockReader_readBlock K RJ Q 123 [(0, .ref o), (1, .ref b), (2, .int x2), (3, .ref rf), (4, .int x4), (5, .int (nI fs.length)), (6, .int x6)] [.int y] I := fun x6 => r_BlockReader_readBlock_123 l d o b _ rf _ _ _ _ ⟨fun _ => s140 _, fun c => absurd c hy⟩
  have s106 : ∀ x6, zi_X l (zx_rm (d + 1) 0 0) M_BlockReader_readBlock K RJ Q 106 [(0, .ref o), (1, .ref b), (2, .int x2), (3, .ref rf), (4, .int x4), (5, .int (nI fs.length)), (6, .int x6)] [.int y] I := fun x6 => r_BlockReader_readBlock_106 l d o b _ rf _ _ _ _ g.k ⟨fun _ => s123 _, fun c => absurd c hy⟩
  have s88 : ∀ x6, zi_X l (zx_rm (d + 1) 0 0) M_BlockReader_readBlock K RJ Q 88 [(0, .ref o), (1, .ref b), (2, .int x2), (3, .ref rf), (4, .int x4), (5, .int (nI fs.length)), (6, .int x6)] [.int y] I := fun x6 => r_BlockReader_readBlock_88 l d o b _ rf _ _ _ _ g.k ⟨fun _ => s106 _, fun c => absurd c hy⟩
  have s71 : ∀ x6, zi_X l (zx_rm (d + 1) 0 0) M_BlockReader_readBlock K RJ Q 71 [(0, .ref o), (1, .ref b), (2, .int x2), (3, .ref rf), (4, .int x4), (5, .int (nI fs.length)), (6, .int x6)] [.int y] I := fun x6 => r_BlockReader_readBlock_71 l d o b _ rf _ _ _ _ g.k ⟨fun _ => s88 _, fun c => absurd c hy⟩
  have s54 : ∀ x6, zi_X l (zx_rm (d + 1) 0 0) M_BlockReader_readBlock K RJ Q 54 [(0, .ref o), (1, .ref b), (2, .int x2), (3, .ref rf), (4, .int x4), (5, .int (nI fs.length)), (6, .int x6)] [.int y] I := fun x6 => r_BlockReader_readBlock_54 l d o b _ rf _ _ _ _ g.k ⟨fun _ => s71 _, fun c => absurd c hy⟩
  exact ⟨s123 _, s106 _, s88 _, s71 _, s54 _, r_BlockReader_readBlock_37 l d o b _ rf _ _ _ _ g.k ⟨fun _ => s54 _, fun c => absurd c hy⟩⟩
theorem neg_ne {y : Int32} (h : y < 0) : ¬ y = 0 := fun e => by
  rw [e] at h
  exact absurd h (by decide)
theorem c_readBlock (l : Launch) (d : Nat) {I : zi_I} (g : g_BR K RJ o br ro N) (gb : g_Block K RJ b) (gf : g_Row K RJ rf 2000) (hd0 : ro + 1 < rf) (hd1 : rf + 1 < br) (hbo : br < o) (hob : o + 29 < b) (hlim : lim ≤ 64) (a : a_Row I ro N bs) (af : a_Row I rf 2000 fs) (hp : I br 1 = nI p) (hp2 : p ≤ 8 * bs.length) :
    zi_C l (zx_rm (d + 4) 0 0) M_BlockReader_readBlock [.ref o, .ref b, .int (nI lim), .ref rf] K RJ I (fun r I2 => rb_post (rd_block bs lim p) fs (8 * bs.length) p br rf b r I2 ∧ zf (rb_S o br rf b) I I2) := by
  have h8 := bits_ok g.b a
  have hfs := af.1
  have hdr : ro + 1 < br := by omega
  -- with a fault of a part
  have bad : ∀ (I2 : zi_I) (e : Int32 × Nat) (x6 : Int32), e.1 < 0 → I2 br 2 = nI e.2 → (∃ p2, p2 < 2 ^ 20 ∧ I2 br 1 = nI p2) → a_Row I2 rf 2000 fs → zf (rb_S o br rf b) I I2 → rd_block bs lim p = .inl e → _ := fun I2 e x6 h1 h2 h3 h4 h5 h6 => t_rb106 (x2 := nI lim) (x4 := nI p) (x6 := x6) (y := e.1) (I := I2) (Q := fun r I2 => rb_post (rd_block bs lim p) fs (8 * bs.length) p br rf b r I2 ∧ zf (rb_S o br rf b) I I2) l (d + 3) g gb gf hfs h4 (neg_ne h1) (fun I3 y1 y2 => by
    obtain ⟨p2, p3, p4⟩ := h3
    refine ⟨?_, zf_trans h5 (zf_mono y2 (fun q hq => by rw [rb_mem]; simp only [List.mem_cons, List.not_mem_nil, or_false] at hq; omega))⟩
    rw [h6]
    exact ⟨rfl, by rw [zf_at y2 (by simp; omega)]; exact h2, h1, ⟨p2, p3, by rw [zf_at y2 (by simp; omega)]; exact p4⟩, y1⟩)
  have nb : ∀ {S : List Nat}, (∀ q ∈ S, q = br ∨ (o ≤ q ∧ q < o + 30) ∨ (b ≤ q ∧ q < b + 11)) → ∀ {I I2 : zi_I}, zf S I I2 → zf (rb_S o br rf b) I I2 := fun {_} h {_ _} z => zf_mono z (fun q hq => by
    rw [rb_mem]
    have := h q hq
    omega)
  have kf' : ∀ {S : List Nat}, (∀ q ∈ S, q = br ∨ (o ≤ q ∧ q < o + 30) ∨ (b ≤ q ∧ q < b + 11)) → ∀ {I I2 : zi_I}, zf S I I2 → a_Row I rf 2000 fs → a_Row I2 rf 2000 fs := fun {_} h {_ _} z a => a.keep z (fun hq => by have := h _ hq; omega) (fun hq => by have := h _ hq; omega)
  have kr : ∀ {S : List Nat}, (∀ q ∈ S, q = br ∨ (o ≤ q ∧ q < o + 30) ∨ (b ≤ q ∧ q < b + 11)) → ∀ {I I2 : zi_I}, zf S I I2 → a_Row I ro N bs → a_Row I2 ro N bs := fun {_} h {_ _} z a => a.keep z (fun hq => by have := h _ hq; omega) (fun hq => by have := h _ hq; omega)
  have e4 : I br 1 = nI p := hp
  have e5 : I rf 1 = nI fs.length := af.2.1
  refine zi_of (by decide) (fun α => Nat.le_of_ble_eq_true rfl) (r_BlockReader_readBlock_0 l (d + 3) o b _ rf g.k g.bR g.b0 g.b.1 gf.1 ?_)
  rw [e4, e5]
  refine zi_mono (c_readNumbers (bs := bs) (N := N) l (d + 1) g gb hdr (by omega) a hp hp2) ?_
  rintro r1 I1 ⟨r1p, z1⟩
  have S1 : ∀ q ∈ b :: [br], q = br ∨ (o ≤ q ∧ q < o + 30) ∨ (b ≤ q ∧ q < b + 11) := fun q hq => by simp only [List.mem_cons, List.not_mem_nil, or_false] at hq; omega
  have zz1 := nb S1 z1.2
  cases e1 : rd_nums bs p with
  | inl f =>
    rw [e1] at r1p
    obtain ⟨rfl, k1, k2, k3⟩ := r1p
    have hb : rd_block bs lim p = .inl f := by
      unfold rd_block
      rw [e1]
      rfl
    exact ⟨_, rfl, fun _ => (bad I1 f _ k2 k1 k3 (kf' S1 z1.2 af) zz1 hb).2.2.2.2.2, fun c => absurd c (neg_ne k2)⟩
  | inr v1 =>
  obtain ⟨⟨ch, og⟩, p1⟩ := v1
  rw [e1] at r1p
  obtain ⟨rfl, k1, k2, k3, k4⟩ := r1p
  have ok1 := rd_nums_ok e1
  refine ⟨_, rfl, fun c => absurd rfl c, fun _ => ?_⟩
  have a1 := kr S1 z1.2 a
  have af1 := kf' S1 z1.2 af
  refine zi_mono (c_readMap (bs := bs) (N := N) l (d + 1) g gb hdr (by omega) a1 k1 k2) ?_
  rintro r2 I2 ⟨r2p, z2⟩
  have S2 : ∀ q ∈ b :: [b + 3, br], q = br ∨ (o ≤ q ∧ q < o + 30) ∨ (b ≤ q ∧ q < b + 11) := fun q hq => by simp only [List.mem_cons, List.not_mem_nil, or_false] at hq; omega
  have zz2 := zf_trans zz1 (nb S2 z2.2)
  cases e2 : rd_maps bs p1 with
  | inl f =>
    rw [e2] at r2p
    obtain ⟨rfl, m1, m2, m3⟩ := r2p
    have hb : rd_block bs lim p = .inl f := by
      unfold rd_block
      rw [e1]
      show rd_b3 bs lim ch og (rd_maps bs p1) = _
      rw [e2]
      rfl
    exact ⟨_, rfl, (bad I2 f _ m2 m1 m3 (kf' S2 z2.2 af1) zz2 hb).2.2.2.2.2⟩
  | inr v2 =>
  obtain ⟨u, p2⟩ := v2
  rw [e2] at r2p
  obtain ⟨rfl, m1, m2, m3⟩ := r2p
  have ok2 := rd_maps_pos e2
  have hkl := kf_le u 256
  have a2 := kr S2 z2.2 a1
  have af2 := kf' S2 z2.2 af1
  refine ⟨_, rfl, r_BlockReader_readBlock_37 l (d + 3) o b _ rf _ _ _ _ g.k ⟨fun c => absurd rfl c, fun _ => zi_mono (c_readCounts (bs := bs) (N := N) l (d + 1) g gb hdr (by omega) a2 m1 m2) ?_⟩⟩
  rintro r3 I3 ⟨r3p, z3⟩
  have S3 : ∀ q ∈ b :: [br], q = br ∨ (o ≤ q ∧ q < o + 30) ∨ (b ≤ q ∧ q < b + 11) := S1
  have zz3 := zf_trans zz2 (nb S3 z3.2)
  have hb3 : ∀ x, rd_TG bs p2 = x → rd_block bs lim p = rd_b4 bs lim ch og u x := fun x hx => by
    unfold rd_block
    rw [e1]
    show rd_b3 bs lim ch og (rd_maps bs p1) = _
    rw [e2]
    show rd_b4 bs lim ch og u (rd_TG bs p2) = _
    rw [hx]
  cases e3 : rd_TG bs p2 with
  | inl f =>
    rw [e3] at r3p
    obtain ⟨rfl, n1, n2, n3⟩ := r3p
    exact ⟨_, rfl, (bad I3 f _ n2 n1 n3 (kf' S3 z3.2 af2) zz3 (hb3 _ e3)).2.2.2.2.1⟩
  | inr v3 =>
  obtain ⟨⟨T, G⟩, p3⟩ := v3
  rw [e3] at r3p
  obtain ⟨rfl, n1, n2, n3, n4⟩ := r3p
  obtain ⟨t1, t2, t3, t4⟩ := rd_TG_ok e3
  dsimp only at t1 t2 t3 t4 n3 n4 n1 n2
  have a3 := kr S3 z3.2 a2
  have af3 := kf' S3 z3.2 af2
  refine ⟨_, rfl, r_BlockReader_readBlock_54 l (d + 3) o b _ rf _ _ _ _ g.k ⟨fun c => absurd rfl c, fun _ => zi_mono (c_readPicks (bs := bs) (N := N) (T := T) (G := G) l (d + 1) g gb hdr hbo hob (by omega) t2 t4 a3 n1 n2 n3 n4) ?_⟩⟩
  rintro r4 I4 ⟨r4p, z4⟩
  have S4 : ∀ q ∈ [o + 1, o + 2, br, b + 10], q = br ∨ (o ≤ q ∧ q < o + 30) ∨ (b ≤ q ∧ q < b + 11) := fun q hq => by simp only [List.mem_cons, List.not_mem_nil, or_false] at hq; omega
  have zz4 := zf_trans zz3 (nb S4 z4)
  have hb4 : ∀ x, rd_picks bs T G (List.range T) [] p3 = x → rd_block bs lim p = rd_b5 bs lim ch og u T G x := fun x hx => by
    rw [hb3 _ e3]
    show rd_b5 bs lim ch og u T G (rd_picks bs T G (List.range T) [] p3) = _
    rw [hx]
  cases e4' : rd_picks bs T G (List.range T) [] p3 with
  | inl f =>
    rw [e4'] at r4p
    obtain ⟨rfl, q1, q2, q3⟩ := r4p
    exact ⟨_, rfl, (bad I4 f _ q2 q1 q3 (kf' S4 z4 af3) zz4 (hb4 _ e4')).2.2.2.1⟩
  | inr v4 =>
  obtain ⟨pk, p4⟩ := v4
  rw [e4'] at r4p
  obtain ⟨rfl, q1, q2, q3, q4⟩ := r4p
  dsimp only at q1 q2 q3 q4
  have okp := rd_picks_ok G (List.range T) [] p3 e4' (by simp) (fun v hv => List.mem_range.mp hv) (fun v hv => absurd hv List.not_mem_nil)
  have hpk : ∀ i, i < G → pk.getD i 0 < T := fun i hi => okp.2 _ (getD_mem (by omega))
  have a4 := kr S4 z4 a3
  have af4 := kf' S4 z4 af3
  have h49 : I4 b 9 = nI T := by rw [zf_at z4 (by simp; omega)]; exact n3
  have h411 : I4 b 11 = nI G := by rw [zf_at z4 (by simp; omega)]; exact n4
  have ak3 : aL I3 b 5 (b + 3) (kf u 256) := ⟨by rw [z3.1 5 (by simp)]; exact m3.1, fun x hx => by rw [zg_cell z3 (by omega) (by simp; omega)]; exact m3.2 x hx⟩
  have ak4 : aL I4 b 5 (b + 3) (kf u 256) := ak3.keep z4 (by simp; omega) (by simp; omega)
  refine ⟨_, rfl, r_BlockReader_readBlock_71 l (d + 3) o b _ rf _ _ _ _ g.k ⟨fun c => absurd rfl c, fun _ => zi_mono (c_readTables (bs := bs) (N := N) (T := T) (kc := (kf u 256).length) l d g gb hdr hbo hob t2 hkl a4 q1 q2 h49 ak4.1) ?_⟩⟩
  rintro r5 I5 ⟨r5p, z5⟩
  have S5 : ∀ q ∈ rt_S o br b, q = br ∨ (o ≤ q ∧ q < o + 30) ∨ (b ≤ q ∧ q < b + 11) := fun q hq => by rw [rt_mem] at hq; omega
  have zz5 := zf_trans zz4 (nb S5 z5)
  have hb5 : ∀ x, rd_tabs bs ((kf u 256).length + 2) T [] p4 = x → rd_block bs lim p = rd_b6 bs lim ch og u T G pk x := fun x hx => by
    rw [hb4 _ e4']
    show rd_b6 bs lim ch og u T G pk (rd_tabs bs ((kf u 256).length + 2) T [] p4) = _
    rw [hx]
  cases e5' : rd_tabs bs ((kf u 256).length + 2) T [] p4 with
  | inl f =>
    rw [e5'] at r5p
    obtain ⟨rfl, w1, w2, w3⟩ := r5p
    exact ⟨_, rfl, (bad I5 f _ w2 w1 w3 (kf' S5 z5 af4) zz5 (hb5 _ e5')).2.2.1⟩
  | inr v5 =>
  obtain ⟨lns, p5⟩ := v5
  rw [e5'] at r5p
  obtain ⟨rfl, w1, w2, w3, w4⟩ := r5p
  dsimp only at w1 w2 w3 w4
  have a5 := kr S5 z5 a4
  have af5 := kf' S5 z5 af4
  have nrt : ∀ q, q = b ∨ q = b + 3 ∨ q = b + 10 → q ∉ rt_S o br b := fun q hq h => by rw [rt_mem] at h; omega
  have ap5 : a_Pk I5 b G (fun g => pk.getD g 0) := ⟨by rw [zf_at z5 (nrt _ (by omega))]; exact h411, fun x hx => by rw [zf_at z5 (nrt _ (by omega))]; exact q4 x hx⟩
  have ak5 : aL I5 b 5 (b + 3) (kf u 256) := ak4.keep z5 (nrt _ (by omega)) (nrt _ (by omega))
  refine ⟨_, rfl, r_BlockReader_readBlock_88 l (d + 3) o b _ rf _ _ _ _ g.k ⟨fun c => absurd rfl c, fun _ => zi_mono (c_readSymbols (bs := bs) (N := N) (T := T) (G := G) (lim := lim) (ks := kf u 256) (lns := lns) (pk := fun g => pk.getD g 0) l d g gb hdr hbo hob t2 t4 hkl (fun v hv => (kf_mem.mp hv).1) ok2 hlim hpk a5 w1 w2 ap5 ak5 w4) ?_⟩⟩
  rintro r6 I6 ⟨r6p, z6⟩
  have S6 : ∀ q ∈ b :: [br, o, o + 1, o + 2, b + 2, b + 4], q = br ∨ (o ≤ q ∧ q < o + 30) ∨ (b ≤ q ∧ q < b + 11) := fun q hq => by simp only [List.mem_cons, List.not_mem_nil, or_false] at hq; omega
  have zz6 := zf_trans zz5 (nb S6 z6.2)
  have hb6 : ∀ x, rd_syms bs lns (kf u 256).length lim (fun g => pk.getD g 0) (8 * G) 0 (kf u 256) [] 1 [] p5 = x → rd_block bs lim p = rd_end ch og u T G pk lns x := fun x hx => by
    rw [hb5 _ e5']
    show rd_end ch og u T G pk lns (rd_syms bs lns (kf u 256).length lim (fun g => pk.getD g 0) (8 * G) 0 (kf u 256) [] 1 [] p5) = _
    rw [hx]
  cases e6 : rd_syms bs lns (kf u 256).length lim (fun g => pk.getD g 0) (8 * G) 0 (kf u 256) [] 1 [] p5 with
  | inl f =>
    rw [e6] at r6p
    obtain ⟨rfl, x1, x2, x3⟩ := r6p
    exact ⟨_, rfl, (bad I6 f _ x2 x1 x3 (kf' S6 z6.2 af5) zz6 (hb6 _ e6)).2.1⟩
  | inr v6 =>
  obtain ⟨⟨sl, co, en⟩, p6⟩ := v6
  rw [e6] at r6p
  obtain ⟨rfl, x1, x2, x3, x4, x5⟩ := r6p
  dsimp only at x1 x2 x3 x4 x5
  obtain ⟨s1, s2, s3, s4, s5, s6⟩ := rd_syms_ok (8 * G) 0 (kf u 256) [] 1 [] p5 e6 rfl ok2 (fun v hv => (kf_mem.mp hv).1) (fun v hv => absurd hv List.not_mem_nil) (Nat.zero_le _) (Nat.le_refl _) (Nat.le_refl _) (fun v hv => absurd hv List.not_mem_nil)
  dsimp only [List.length_nil] at s1 s2 s3 s4 s5 s6
  have a6 := kr S6 z6.2 a5
  have af6 := kf' S6 z6.2 af5
  have h61 : I6 b 1 = nI og := by
    rw [z6.1 1 (by simp), zf_at z5 (nrt _ (by omega)), zf_at z4 (by simp; omega), z3.1 1 (by simp), z2.1 1 (by simp)]
    exact k4
  have h60 : I6 b 0 = nI ch := by
    rw [z6.1 0 (by simp), zf_at z5 (nrt _ (by omega)), zf_at z4 (by simp; omega), z3.1 0 (by simp), z2.1 0 (by simp)]
    exact k3
  have aco : a_Co I6 b co.length (fun i => co.getD i 0) := x4
  refine ⟨_, rfl, r_BlockReader_readBlock_106 l (d + 3) o b _ rf _ _ _ _ g.k ⟨fun c => absurd rfl c, fun _ => zi_mono (c_unsort (n := co.length) (c := fun i => co.getD i 0) (og := og) l (d + 1) g gb hob (by omega) (by omega) (fun i hi => s3 _ (getD_mem hi)) h61 aco) ?_⟩⟩
  rintro r7 I7 (⟨y0, rfl, y1, z7⟩ | ⟨y0, rfl, rfl⟩)
  · have S7 : ∀ q ∈ [o + 4, o + 5, b + 1], q = br ∨ (o ≤ q ∧ q < o + 30) ∨ (b ≤ q ∧ q < b + 11) := fun q hq => by simp only [List.mem_cons, List.not_mem_nil, or_false] at hq; omega
    have zz7 := zf_trans zz6 (nb S7 z7)
    have af7 := kf' S7 z7 af6
    have ash : a_Sh I7 b co.length (fun i => (un_sh (fun i => co.getD i 0) co.length og).getD i 0) := ⟨by rw [zf_at z7 (by simp; omega)]; exact x4.1, y1⟩
    have shb : ∀ i, i < co.length → (un_sh (fun i => co.getD i 0) co.length og).getD i 0 < 256 := fun i hi => un_sh_lt y0 s3 _ (getD_mem (by rw [un_sh_len]; exact hi))
    have lef := le_fin (f := fun i => (un_sh (fun i => co.getD i 0) co.length og).getD i 0) co.length 0 0 0 [] (fun k _ h => shb k (by omega)) ⟨by omega, 0, by omega, by simp⟩
    have hbd := le_iv_bd lef (by omega)
    refine ⟨_, rfl, r_BlockReader_readBlock_123 l (d + 3) o b _ rf _ _ _ _ ⟨fun c => absurd rfl c, fun _ => zi_mono (c_lengthen (n := co.length) (f := fun i => (un_sh (fun i => co.getD i 0) co.length og).getD i 0) (fs := fs) (N := 2000) l (d + 2) gb gf (by omega) (by omega) (by omega) shb ash af7) ?_⟩⟩
    rintro r8 I8 ⟨rfl, ar8, z8⟩
    have z8' : zf (rb_S o br rf b) I I8 := zf_trans zz7 (zf_mono z8 (fun q hq => by rw [rb_mem]; simp only [List.mem_cons, List.not_mem_nil, or_false] at hq; omega))
    have hb8 : I8 br 2 = nI en := by rw [zf_at z8 (by simp; omega), zf_at z7 (by simp; omega)]; exact x5
    have hp8 : I8 br 1 = nI p6 := by rw [zf_at z8 (by simp; omega), zf_at z7 (by simp; omega)]; exact x1
    have tk : ((fs ++ (rb_le og co).1).take 2000).take fs.length = fs := by
      rw [List.take_take, Nat.min_eq_left hfs, List.take_left']
      rfl
    have hb7 : rd_block bs lim p = if (rb_le og co).2 = 4 then .inl (-13, en) else .inr ((rb_bk ch og u T G pk lns sl co, (rb_le og co).1), p6) := by
      rw [hb6 _ e6]
      show (if og < co.length then (if (rb_le og co).2 = 4 then (Sum.inl (-13, en) : rd_R (bk_B × List Nat)) else Sum.inr ((rb_bk ch og u T G pk lns sl co, (rb_le og co).1), p6)) else Sum.inl (-12, en)) = _
      rw [if_pos y0]
    refine ⟨_, rfl, ?_⟩
    by_cases c4 : (rb_le og co).2 = 4
    · rw [if_pos c4] at hb7
      rw [if_pos (show (le_go (fun i => (un_sh (fun i => co.getD i 0) co.length og).getD i 0) co.length 0 0 0 []).2 = 4 from c4)]
      refine t_rb140 l (d + 3) g gb gf hfs tk ar8 (by decide) (fun I9 v1 v2 => ⟨?_, zf_trans z8' (zf_mono v2 (fun q hq => by rw [rb_mem]; simp only [List.mem_cons, List.not_mem_nil, or_false] at hq; omega))⟩)
      rw [hb7]
      exact ⟨rfl, by rw [zf_at v2 (by simp; omega)]; exact hb8, by dsimp only; decide, ⟨p6, by omega, by rw [zf_at v2 (by simp; omega)]; exact hp8⟩, v1⟩
    · rw [if_neg c4] at hb7
      rw [if_neg (show ¬ (le_go (fun i => (un_sh (fun i => co.getD i 0) co.length og).getD i 0) co.length 0 0 0 []).2 = 4 from c4)]
      by_cases c5 : fs.length + (rb_le og co).1.length ≤ 2000
      · rw [if_pos (show fs.length + (le_go (fun i => (un_sh (fun i => co.getD i 0) co.length og).getD i 0) co.length 0 0 0 []).1.length ≤ 2000 from c5)]
        have ar9 : a_Row I8 rf 2000 (fs ++ (rb_le og co).1) := by
          have : (fs ++ (rb_le og co).1).take 2000 = fs ++ (rb_le og co).1 := List.take_of_length_le (by rw [List.length_append]; exact c5)
          rw [← this]
          exact ar8
        have el : (fs ++ (rb_le og co).1).length = fs.length + (rb_le og co).1.length := List.length_append
        refine r_BlockReader_readBlock_140 l (d + 3) o b _ rf _ _ _ _ gf.1 gb.k g.k g.bR g.b0 g.b.1 ⟨fun c => absurd rfl c, fun _ => ?_⟩
        rw [ar9.2.1, el]
        refine zi_mono (c_checkOf (i := fs.length) (e := fs.length + (rb_le og co).1.length) l (d + 2) gf ar9 (by omega) (by omega)) ?_
        rintro r9 I9 ⟨rfl, rfl⟩
        have ec : cr_fn (fun k => (fs ++ (rb_le og co).1).getD k 0) fs.length (fs.length + (rb_le og co).1.length - fs.length) 65535 = cr_fn (fun k => (rb_le og co).1.getD k 0) 0 (rb_le og co).1.length 65535 := by
          have := cr_shift (fun k => (fs ++ (rb_le og co).1).getD k 0) fs.length (rb_le og co).1.length 0 65535
          rw [Nat.add_zero] at this
          rw [Nat.add_sub_cancel_left, this]
          congr 1
          funext k
          simp only [List.getD_eq_getElem?_getD]
          rw [List.getElem?_append_right (by omega), Nat.add_sub_cancel_left]
        rw [ec]
        have hcr : cr_fn (fun k => (rb_le og co).1.getD k 0) 0 (rb_le og co).1.length 65535 < 65536 := cr_fn_lt _ _ _ (by decide) (fun k _ h => le_lt co.length 0 0 0 [] (fun k _ h => shb k (by omega)) (by decide) (fun x hx => absurd hx List.not_mem_nil) _ (getD_mem (by have h2 : k < 0 + (rb_le og co).1.length := h; show k < (rb_le og co).1.length; omega)))
        have h90 : I9 b 0 = nI ch := by rw [zf_at z8 (by simp; omega), zf_at z7 (by simp; omega)]; exact h60
        have hch : ch < 65536 := ok1.1
        rw [h90]
        refine ⟨_, rfl, ?_⟩
        rw [nI_eq (by omega) (by omega)]
        refine ⟨fun c6 => ?_, fun c6 => ?_⟩
        · have z78 : zf [o + 4, o + 5, b + 1, rf, rf + 1] I6 I9 := zf_trans (zf_mono z7 (by simp)) (zf_mono z8 (by simp))
          have e78 : ∀ q, b ≤ q → q ≤ b + 10 → q ≠ b + 1 → I9 q = I6 q := fun q h1 h2 h3 => z78 q (by simp only [List.mem_cons, List.not_mem_nil, or_false, not_or]; omega)
          refine r_BlockReader_readBlock_177 l (d + 3) o b _ rf _ _ _ gf.1 ⟨fun _ => r_BlockReader_readBlock_188 l (d + 3) o b _ rf _ _ _ ⟨?_, z8'⟩, fun x => absurd rfl x⟩
          rw [hb7]
          refine Or.inr (Or.inl ⟨by show ¬ 2000 < fs.length + (rb_le og co).1.length; omega, c6, rfl, hp8, x2, ar9, ?_, ?_⟩)
          · refine ⟨h90, ?_, ⟨?_, ?_⟩, ?_, ⟨?_, ?_⟩, ⟨?_, ?_⟩, ?_, ?_, ⟨?_, ?_⟩⟩
            · rw [e78 _ (by omega) (by omega) (by omega)]; exact h61
            · rw [e78 _ (by omega) (by omega) (by omega), x4.1]
              show nI co.length = nI (un_sh (fun i => co.getD i 0) co.length og).length
              rw [un_sh_len]
            · intro i hi
              have hi2 : i < (un_sh (fun i => co.getD i 0) co.length og).length := hi
              rw [un_sh_len] at hi2
              rw [zf_at z8 (by simp; omega)]
              exact y1 i hi2
            · rw [e78 _ (by omega) (by omega) (by omega)]; exact x4.2
            · rw [e78 _ (by omega) (by omega) (by omega), z6.1 5 (by simp)]; exact ak5.1
            · intro i hi
              rw [e78 _ (by omega) (by omega) (by omega), zg_cell z6 (by omega) (by simp; omega)]
              exact ak5.2 i hi
            · rw [e78 _ (by omega) (by omega) (by omega)]; exact x3.1
            · rw [e78 _ (by omega) (by omega) (by omega)]; exact x3.2
            · rw [e78 _ (by omega) (by omega) (by omega), z6.1 9 (by simp), zf_at z5 (nrt _ (by omega))]; exact h49
            · intro t ht s hs
              have ht2 : t < T := ht
              rw [e78 _ (by omega) (by omega) (by omega), zg_cell z6 (by omega) (by simp only [List.mem_cons, List.not_mem_nil, or_false, not_or]; omega)]
              exact (w4 t ht2).1 s hs
            · rw [e78 _ (by omega) (by omega) (by omega), z6.1 11 (by simp)]; exact ap5.1
            · intro i hi
              rw [e78 _ (by omega) (by omega) (by omega), zg_cell z6 (by omega) (by simp only [List.mem_cons, List.not_mem_nil, or_false, not_or]; omega)]
              exact ap5.2 i hi
          · exact rb_bk_ok (lim := lim) ok1.1 ok1.2 t1 t2 t4 q3 okp.2 (fun t ht => (w4 t ht).2.2) s1 s2 hlim s3 s4 (by omega) y0
        · have zc : zf [br] I9 (zx_u2 I9 br 2 (nI p)) := zf_u2 (by simp)
          refine t_rb177 l (d + 3) gf hfs (L := fs ++ (rb_le og co).1) (by rw [List.take_left']; rfl) (ar9.keep zc (by simp; omega) (by simp; omega)) (by decide) (fun I10 v1 v2 => ⟨?_, zf_trans (zf_trans z8' (zf_mono zc (fun q hq => by rw [rb_mem]; simp only [List.mem_cons, List.not_mem_nil, or_false] at hq; omega))) (zf_mono v2 (fun q hq => by rw [rb_mem]; simp only [List.mem_cons, List.not_mem_nil, or_false] at hq; omega))⟩)
          rw [hb7]
          exact Or.inr (Or.inr ⟨by show ¬ 2000 < fs.length + (rb_le og co).1.length; omega, c6, rfl, by rw [zf_at v2 (by simp; omega), zx_u2_s], ⟨p6, by omega, by rw [zf_at v2 (by simp; omega), zx_u2_k (by omega)]; exact hp8⟩, v1⟩)
      · rw [if_neg (show ¬ fs.length + (le_go (fun i => (un_sh (fun i => co.getD i 0) co.length og).getD i 0) co.length 0 0 0 []).1.length ≤ 2000 from c5)]
        refine t_rb140 l (d + 3) g gb gf hfs tk ar8 (by decide) (fun I9 v1 v2 => ⟨?_, zf_trans z8' (zf_mono v2 (fun q hq => by rw [rb_mem]; simp only [List.mem_cons, List.not_mem_nil, or_false] at hq; omega))⟩)
        rw [hb7]
        exact Or.inl ⟨by show 2000 < fs.length + (rb_le og co).1.length; omega, rfl, ⟨p6, by omega, by rw [zf_at v2 (by simp; omega)]; exact hp8⟩, v1⟩
  · have hb7 : rd_block bs lim p = .inl (-12, en) := by
      rw [hb6 _ e6]
      show (if og < co.length then (if (rb_le og co).2 = 4 then (Sum.inl (-13, en) : rd_R (bk_B × List Nat)) else Sum.inr ((rb_bk ch og u T G pk lns sl co, (rb_le og co).1), p6)) else Sum.inl (-12, en)) = _
      rw [if_neg y0]
    exact ⟨_, rfl, (bad I7 (-12, en) _ (by dsimp only; decide) x5 ⟨p6, by omega, x1⟩ af6 zz6 hb7).1⟩
end RB
