/-! Tables are picked: how often a symbol is in the groups of a table, what a group costs. -/
def pc_n (sy pk : Nat → Nat) (t s : Nat) : Nat → Nat
  | 0 => 0
  | k + 1 => pc_n sy pk t s k + (if pk (k / 8) = t ∧ sy k = s then 1 else 0)
def pc_w (sy pk : Nat → Nat) (y t s : Nat) : Nat := if pc_n sy pk t s y = 0 then 1 else pc_n sy pk t s y
/-- the sum of j lengths from the k-th symbol on -/
def pc_c (ln sy : Nat → Nat) (k : Nat) : Nat → Nat
  | 0 => 0
  | j + 1 => pc_c ln sy k j + ln (sy (k + j))
def pc_cost (ln sy : Nat → Nat) (y g : Nat) : Nat := pc_c ln sy (8 * g) (min y (8 * g + 8) - 8 * g)
def pc_best (c : Nat → Nat) : Nat → Nat
  | 0 => 0
  | t + 1 => if c (t + 1) < c (pc_best c t) then t + 1 else pc_best c t
theorem pc_best_le (c : Nat → Nat) : ∀ t, pc_best c t ≤ t
  | 0 => Nat.le_refl _
  | t + 1 => by
    have := pc_best_le c t
    show (if c (t + 1) < c (pc_best c t) then t + 1 else pc_best c t) ≤ t + 1
    split <;> omega
theorem pc_n_le (sy pk : Nat → Nat) (t s : Nat) : ∀ y, pc_n sy pk t s y ≤ y
  | 0 => Nat.le_refl _
  | y + 1 => by
    have := pc_n_le sy pk t s y
    show pc_n sy pk t s y + (if pk (y / 8) = t ∧ sy y = s then 1 else 0) ≤ y + 1
    split <;> omega
theorem pc_w_le (sy pk : Nat → Nat) (y t s : Nat) : pc_w sy pk y t s ≤ y + 1 := by
  have := pc_n_le sy pk t s y
  unfold pc_w
  split <;> omega
theorem pc_w_ge (sy pk : Nat → Nat) (y t s : Nat) : 1 ≤ pc_w sy pk y t s := by
  unfold pc_w
  split <;> omega
theorem pc_c_le {ln sy : Nat → Nat} {k B : Nat} : ∀ j, (∀ i, i < j → ln (sy (k + i)) ≤ B) → pc_c ln sy k j ≤ j * B
  | 0, _ => by simp [pc_c]
  | j + 1, h => by
    have h1 := pc_c_le (B := B) j (fun i hi => h i (by omega))
    have h2 := h j (by omega)
    show pc_c ln sy k j + ln (sy (k + j)) ≤ (j + 1) * B
    rw [Nat.succ_mul]
    omega
/-- sums -/
theorem hf_f_mono {a b : Nat → Nat} : ∀ n, (∀ s, s < n → a s ≤ b s) → hf_f a (fun _ => 0) n ≤ hf_f b (fun _ => 0) n
  | 0, _ => Nat.le_refl _
  | n + 1, h => by
    have := hf_f_mono n (fun s hs => h s (by omega))
    have := h n (by omega)
    show hf_f a (fun _ => 0) n + (if (0 : Nat) = 0 then a n else 0) ≤ hf_f b (fun _ => 0) n + (if (0 : Nat) = 0 then b n else 0)
    rw [if_pos rfl, if_pos rfl]
    omega
theorem hf_f_add {a b : Nat → Nat} : ∀ n, hf_f (fun s => a s + b s) (fun _ => 0) n = hf_f a (fun _ => 0) n + hf_f b (fun _ => 0) n
  | 0 => rfl
  | n + 1 => by
    have := hf_f_add (a := a) (b := b) n
    show hf_f (fun s => a s + b s) (fun _ => 0) n + (if (0 : Nat) = 0 then a n + b n else 0) = hf_f a (fun _ => 0) n + (if (0 : Nat) = 0 then a n else 0) + (hf_f b (fun _ => 0) n + (if (0 : Nat) = 0 then b n else 0))
    rw [if_pos rfl, if_pos rfl, if_pos rfl]
    omega
theorem hf_f_const {c : Nat} : ∀ n, hf_f (fun _ => c) (fun _ => 0) n = n * c
  | 0 => by simp [hf_f]
  | n + 1 => by
    have := hf_f_const (c := c) n
    show hf_f (fun _ => c) (fun _ => 0) n + (if (0 : Nat) = 0 then c else 0) = (n + 1) * c
    rw [if_pos rfl, this, Nat.succ_mul]
theorem hf_f_ind {v : Nat} {P : Prop} [Decidable P] : ∀ n, hf_f (fun s => if P ∧ v = s then 1 else 0) (fun _ => 0) n ≤ if v < n then 1 else 0
  | 0 => Nat.zero_le _
  | n + 1 => by
    have := hf_f_ind (v := v) (P := P) n
    show hf_f (fun s => if P ∧ v = s then 1 else 0) (fun _ => 0) n + (if (0 : Nat) = 0 then (if P ∧ v = n then 1 else 0) else 0) ≤ if v < n + 1 then 1 else 0
    rw [if_pos rfl]
    by_cases h : v = n
    · rw [if_neg (show ¬ v < n by omega)] at this
      rw [if_pos (show v < n + 1 by omega)]
      split <;> omega
    · rw [if_neg (fun z => h z.2)]
      by_cases h2 : v < n
      · rw [if_pos h2] at this
        rw [if_pos (by omega)]
        omega
      · rw [if_neg h2] at this
        rw [if_neg (by omega)]
        omega
theorem pc_n_sum {sy pk : Nat → Nat} {t n : Nat} : ∀ y, hf_f (fun s => pc_n sy pk t s y) (fun _ => 0) n ≤ y
  | 0 => by
    have := hf_f_const (c := 0) n
    show hf_f (fun s => 0) (fun _ => 0) n ≤ 0
    omega
  | y + 1 => by
    have h1 := pc_n_sum (sy := sy) (pk := pk) (t := t) (n := n) y
    have h2 := hf_f_ind (v := sy y) (P := pk (y / 8) = t) n
    have h3 := hf_f_add (a := fun s => pc_n sy pk t s y) (b := fun s => if pk (y / 8) = t ∧ sy y = s then 1 else 0) n
    show hf_f (fun s => pc_n sy pk t s y + (if pk (y / 8) = t ∧ sy y = s then 1 else 0)) (fun _ => 0) n ≤ y + 1
    have h4 : (if sy y < n then 1 else 0) ≤ 1 := by split <;> omega
    omega
theorem pc_w_sum (sy pk : Nat → Nat) (y t n : Nat) : hf_f (pc_w sy pk y t) (fun _ => 0) n ≤ y + n := by
  have h1 := hf_f_mono (a := pc_w sy pk y t) (b := fun s => pc_n sy pk t s y + 1) n (fun s _ => by
    unfold pc_w
    split <;> omega)
  have h2 := hf_f_add (a := fun s => pc_n sy pk t s y) (b := fun _ => 1) n
  have h3 := pc_n_sum (sy := sy) (pk := pk) (t := t) (n := n) y
  have h4 := hf_f_const (c := 1) n
  omega
/-- a block's cells -/
def g_Block (K : zx_Kt) (RJ : zx_RJ) (b : Nat) : Prop := (K.2 b).1 = 9 ∧ (RJ.1 b 3 = b + 1 ∧ K.2 (b + 1) = (0, 64)) ∧ (RJ.1 b 4 = b + 2 ∧ K.2 (b + 2) = (0, 64)) ∧ (RJ.1 b 6 = b + 3 ∧ K.2 (b + 3) = (0, 256)) ∧ (RJ.1 b 8 = b + 4 ∧ K.2 (b + 4) = (0, 65)) ∧ (RJ.1 b 10 = b + 5 ∧ K.2 (b + 5) = (4, 4)) ∧ (∀ t, t < 4 → RJ.1 (b + 5) t = b + 6 + t ∧ K.2 (b + 6 + t) = (0, 258)) ∧ (RJ.1 b 12 = b + 10 ∧ K.2 (b + 10) = (0, 63))
section PK
variable {K : zx_Kt} {RJ : zx_RJ} {b : Nat}
theorem g_Block.k (g : g_Block K RJ b) : (K.2 b).1 = 9 := g.1
theorem g_Block.sh (g : g_Block K RJ b) : RJ.1 b 3 = b + 1 ∧ K.2 (b + 1) = (0, 64) := g.2.1
theorem g_Block.co (g : g_Block K RJ b) : RJ.1 b 4 = b + 2 ∧ K.2 (b + 2) = (0, 64) := g.2.2.1
theorem g_Block.kl (g : g_Block K RJ b) : RJ.1 b 6 = b + 3 ∧ K.2 (b + 3) = (0, 256) := g.2.2.2.1
theorem g_Block.sy (g : g_Block K RJ b) : RJ.1 b 8 = b + 4 ∧ K.2 (b + 4) = (0, 65) := g.2.2.2.2.1
theorem g_Block.le (g : g_Block K RJ b) : RJ.1 b 10 = b + 5 ∧ K.2 (b + 5) = (4, 4) := g.2.2.2.2.2.1
theorem g_Block.ls (g : g_Block K RJ b) {t : Nat} (ht : t < 4) : RJ.1 (b + 5) t = b + 6 + t ∧ K.2 (b + 6 + t) = (0, 258) := g.2.2.2.2.2.2.1 t ht
theorem g_Block.pi (g : g_Block K RJ b) : RJ.1 b 12 = b + 10 ∧ K.2 (b + 10) = (0, 63) := g.2.2.2.2.2.2.2
theorem c_symbolKinds (l : Launch) (d : Nat) {I : zi_I} {k : Nat} (g : g_Block K RJ b) (h : I b 5 = nI k) : zi_C l (zx_rm d 0 0) M_Block_symbolKinds [.ref b] K RJ I (fun r I2 => r = some (.int (nI (k + 2))) ∧ I2 = I) :=
  zi_of (by decide) (fun α => Nat.le_of_ble_eq_true rfl) (r_Block_symbolKinds_0 l d b g.k ⟨by rw [h, show (2 : Int32) = nI 2 from rfl, nI_add], rfl⟩)
theorem c_endSymbol (l : Launch) (d : Nat) {I : zi_I} {k : Nat} (g : g_Block K RJ b) (h : I b 5 = nI k) : zi_C l (zx_rm d 0 0) M_Block_endSymbol [.ref b] K RJ I (fun r I2 => r = some (.int (nI (k + 1))) ∧ I2 = I) :=
  zi_of (by decide) (fun α => Nat.le_of_ble_eq_true rfl) (r_Block_endSymbol_0 l d b g.k ⟨by rw [h, nI_1], rfl⟩)
theorem c_pickOfSymbol (l : Launch) (d : Nat) {I : zi_I} {G k : Nat} (g : g_Block K RJ b) (h : I b 11 = nI G) (hG : G ≤ 63) (hk : k < 8 * G) : zi_C l (zx_rm d 0 0) M_Block_pickOfSymbol [.ref b, .int (nI k)] K RJ I (fun r I2 => r = some (.int (I (b + 10) (k / 8))) ∧ I2 = I) := by
  have e : nI k / 8 = nI (k / 8) := pk_div (d := 8) (by omega) (by omega) (by omega)
  refine zi_of (by decide) (fun α => Nat.le_of_ble_eq_true rfl) (r_Block_pickOfSymbol_0 l d b _ g.k g.pi.1 (by omega) g.pi.2 ⟨fun c => ?_, fun _ => ⟨fun c => ?_, fun _ => ⟨k / 8, e, by omega, rfl, rfl⟩⟩⟩)
  · rw [e] at c
    exact absurd c (nI_pos (by omega))
  · rw [e, h, nI_leI (by omega) (by omega)] at c
    omega
end PK
/-- a picker's cells -/
def g_Picker (K : zx_Kt) (RJ : zx_RJ) (o : Nat) : Prop := (K.2 o).1 = 15 ∧ RJ.1 o 0 = o + 1 ∧ g_Trees K RJ (o + 1) ∧ RJ.1 o 1 = o + 6 ∧ K.2 (o + 6) = (0, 66)
section PW
variable {K : zx_Kt} {RJ : zx_RJ} {o b y G t : Nat} {sy pk : Nat → Nat}
/-- a block's symbols and picks -/
def a_Sy (I : zi_I) (b y : Nat) (sy : Nat → Nat) : Prop := I b 7 = nI y ∧ ∀ k, k < y → I (b + 4) k = nI (sy k)
def a_Pk (I : zi_I) (b G : Nat) (pk : Nat → Nat) : Prop := I b 11 = nI G ∧ ∀ g, g < G → I (b + 10) g = nI (pk g)
theorem a_Sy.keep {I I2 : zi_I} {S : List Nat} (a : a_Sy I b y sy) (h : zf S I I2) (h1 : b ∉ S) (h2 : b + 4 ∉ S) : a_Sy I2 b y sy := ⟨by rw [h b h1]; exact a.1, fun k hk => by rw [h _ h2]; exact a.2 k hk⟩
theorem a_Pk.keep {I I2 : zi_I} {S : List Nat} (a : a_Pk I b G pk) (h : zf S I I2) (h1 : b ∉ S) (h2 : b + 10 ∉ S) : a_Pk I2 b G pk := ⟨by rw [h b h1]; exact a.1, fun k hk => by rw [h _ h2]; exact a.2 k hk⟩
theorem t_we10 (l : Launch) (d : Nat) {Q : zi_Q} (g : g_Picker K RJ o) (gb : g_Block K RJ b) (hd : o + 6 < b) (hy : y ≤ 65) (hs : ∀ k, k < y → sy k < 66) (hG : G ≤ 63) (hyG : y ≤ 8 * G) (hp : ∀ g, g < G → pk g < 2 ^ 20) (ht : t < 2 ^ 20) :
    ∀ (j k : Nat) (I : zi_I), k + j = y → a_Sy I b y sy → a_Pk I b G pk → (∀ s, s < 66 → I (o + 6) s = nI (pc_n sy pk t s k)) →
      (∀ I2, (∀ s, s < 66 → I2 (o + 6) s = nI (pc_n sy pk t s y)) → zf [o + 6] I I2 → zi_X l (zx_rm (d + 1) 0 0) M_Picker_weigh K RJ Q 50 [(0, .ref o), (1, .ref b), (2, .int (nI t)), (3, .int 0)] [] I2) →
      zi_X l (zx_rm (d + 1) 0 0) M_Picker_weigh K RJ Q 10 [(0, .ref o), (1, .ref b), (2, .int (nI t)), (3, .int (nI k))] [] I := by
  obtain ⟨g0, g1, g2, g3, g4⟩ := g
  intro j
  induction j with
  | zero =>
    intro k I hk a1 a2 hw q
    obtain rfl : k = y := by omega
    refine r_Picker_weigh_10 l d o b _ _ gb.k g0 g3 (by omega) gb.sy.1 (by omega) gb.sy.2 g4 ⟨fun _ => q I hw zf_refl, fun c => ?_⟩
    rw [a1.1, nI_leI (by omega) (by omega)] at c
    omega
  | succ j ih =>
    intro k I hk a1 a2 hw q
    have hs1 := hs k (by omega)
    have hp1 := hp (k / 8) (by omega)
    refine r_Picker_weigh_10 l d o b _ _ gb.k g0 g3 (by omega) gb.sy.1 (by omega) gb.sy.2 g4 ⟨fun c => ?_, fun _ => zi_mono (c_pickOfSymbol l d gb a2.1 hG (by omega)) ?_⟩
    · rw [a1.1, nI_leI (by omega) (by omega)] at c
      omega
    · rintro r I2 ⟨rfl, rfl⟩
      rw [a2.2 _ (by omega)]
      refine ⟨_, rfl, fun c => ?_, fun c => ⟨k, rfl, by omega, sy k, a1.2 k (by omega), hs1, sy k, a1.2 k (by omega), hs1, ?_⟩⟩
      · rw [nI_eq (by omega) (by omega)] at c
        rw [nI_1]
        refine ih (k + 1) I2 (by omega) a1 a2 (fun s h => ?_) q
        rw [hw s h]
        show _ = nI (pc_n sy pk t s k + (if pk (k / 8) = t ∧ sy k = s then 1 else 0))
        rw [if_neg (fun z => c z.1)]
        rfl
      · rw [nI_eq (by omega) (by omega)] at c
        rw [nI_1, hw _ hs1, nI_1]
        have z : zf [o + 6] I2 (zx_u2 I2 (o + 6) (sy k) (nI (pc_n sy pk t (sy k) k + 1))) := zf_u2 (by simp)
        refine ih (k + 1) _ (by omega) (a1.keep z (by simp; omega) (by simp; omega)) (a2.keep z (by simp; omega) (by simp; omega)) (fun s h => ?_) (fun I3 y1 y2 => q I3 y1 (zf_trans z y2))
        show _ = nI (pc_n sy pk t s k + (if pk (k / 8) = t ∧ sy k = s then 1 else 0))
        by_cases e : s = sy k
        · rw [e, zx_u2_s, if_pos ⟨c, rfl⟩]
        · rw [zx_u2_k e, if_neg (fun z => e z.2.symm), hw s h]
          rfl
theorem zi_maxN1 {a : Nat} (ha : a < 2 ^ 31) : zi_maxv (nI a) 1 = nI (if a = 0 then 1 else a) := by
  unfold zi_maxv
  by_cases h : a = 0
  · rw [if_pos h, h]
    rfl
  · rw [if_neg h, show (1 : Int32) = nI 1 from rfl, if_neg (by rw [nI_ltI ha (by omega)]; omega)]
theorem t_we50 (l : Launch) (d : Nat) {Q : zi_Q} {x1 : Nat} {x2 : Int32} (g : g_Picker K RJ o) {f : Nat → Nat} (hf : ∀ s, s < 66 → f s < 2 ^ 20) :
    ∀ (j s : Nat) (I : zi_I), s + j = 66 → (∀ i, i < 66 → I (o + 6) i = nI (if i < s then (if f i = 0 then 1 else f i) else f i)) →
      (∀ I2, (∀ i, i < 66 → I2 (o + 6) i = nI (if f i = 0 then 1 else f i)) → zf [o + 6] I I2 → Q none I2) →
      zi_X l (zx_rm (d + 1) 0 0) M_Picker_weigh K RJ Q 50 [(0, .ref o), (1, .ref x1), (2, .int x2), (3, .int (nI s))] [] I := by
  obtain ⟨g0, g1, g2, g3, g4⟩ := g
  intro j
  induction j with
  | zero =>
    intro s I hs hw q
    obtain rfl : s = 66 := by omega
    refine r_Picker_weigh_50 l d o x1 _ _ g0 g3 (by omega) g4 ⟨fun _ => q I (fun i hi => by rw [hw i hi, if_pos hi]) zf_refl, fun c => ?_⟩
    rw [nI_leI (by omega) (by omega)] at c
    omega
  | succ j ih =>
    intro s I hs hw q
    refine r_Picker_weigh_50 l d o x1 _ _ g0 g3 (by omega) g4 ⟨fun c => ?_, fun _ => ⟨s, rfl, by omega, s, rfl, by omega, ?_⟩⟩
    · rw [nI_leI (by omega) (by omega)] at c
      omega
    · rw [hw s (by omega), if_neg (by omega), zi_maxN1 (Nat.lt_trans (hf s (by omega)) (by decide)), nI_1]
      refine ih (s + 1) _ (by omega) (fun i hi => ?_) (fun I2 y1 y2 => q I2 y1 (zf_trans (zf_u2 (by simp)) y2))
      by_cases e : i = s
      · rw [e, zx_u2_s, if_pos (show s < s + 1 by omega)]
      · rw [zx_u2_k e, hw i hi]
        by_cases h : i < s
        · rw [if_pos h, if_pos (show i < s + 1 by omega)]
        · rw [if_neg h, if_neg (show ¬ i < s + 1 by omega)]
theorem c_weigh (l : Launch) (d : Nat) {I : zi_I} (g : g_Picker K RJ o) (gb : g_Block K RJ b) (hd : o + 6 < b) (hy : y ≤ 65) (hs : ∀ k, k < y → sy k < 66) (hG : G ≤ 63) (hyG : y ≤ 8 * G) (hp : ∀ g, g < G → pk g < 2 ^ 20) (ht : t < 2 ^ 20) (a1 : a_Sy I b y sy) (a2 : a_Pk I b G pk) :
    zi_C l (zx_rm (d + 1) 0 0) M_Picker_weigh [.ref o, .ref b, .int (nI t)] K RJ I (fun r I2 => r = none ∧ (∀ s, s < 66 → I2 (o + 6) s = nI (pc_w sy pk y t s)) ∧ zf [o + 6] I I2) := by
  refine zi_of (by decide) (fun α => Nat.le_of_ble_eq_true rfl) (r_Picker_weigh_0 l d o b _ g.1 g.2.2.2.1 (by omega) (zi_mono (c_fill l d g.2.2.2.2 (by decide)) ?_))
  rintro r I2 ⟨rfl, rfl⟩
  have z : zf [o + 6] I (fun c i => if c = o + 6 ∧ i < 66 then 0 else I c i) := fun c hc => by
    funext i
    show (if c = o + 6 ∧ i < 66 then (0 : Int32) else I c i) = I c i
    rw [if_neg (fun z => hc (by simp [z.1]))]
  refine ⟨rfl, t_we10 (pk := pk) (sy := sy) (G := G) (y := y) l d g gb hd hy hs hG hyG hp ht y 0 _ (by omega) (a1.keep z (by simp; omega) (by simp; omega)) (a2.keep z (by simp; omega) (by simp; omega)) (fun s h => ?_) (fun I3 y1 y2 => ?_)⟩
  · show (if o + 6 = o + 6 ∧ s < 66 then (0 : Int32) else I (o + 6) s) = nI 0
    rw [if_pos ⟨rfl, h⟩]
    rfl
  · refine t_we50 (f := fun s => pc_n sy pk t s y) l d g (fun s _ => by have := pc_n_le sy pk t s y; show pc_n sy pk t s y < 2 ^ 20; omega) 66 0 I3 (by omega) (fun i hi => by rw [y1 i hi, if_neg (by omega)]) (fun I4 w1 w2 => ⟨rfl, w1, zf_trans (zf_trans z y2) w2⟩)
end PW
