/-! imageCount -/
def qq_rest (v : Int32) (m : Nat) : Nat := (v.toInt % (m : Int)).toNat
theorem qq_rest_lt (v : Int32) {m : Nat} (h0 : 0 < m) : qq_rest v m < m := by
  have a := Int.emod_nonneg v.toInt (b := (m : Int)) (by omega)
  have b := Int.emod_lt_of_pos v.toInt (b := (m : Int)) (by omega)
  unfold qq_rest
  omega
theorem qq_tm_em (a : Int) {m : Int} (h0 : 0 < m) : (0 ≤ a.tmod m → a.tmod m = a % m) ∧ (a.tmod m < 0 → a.tmod m + m = a % m) ∧ -m < a.tmod m ∧ a.tmod m < m := by
  have b1 := Int.lt_tmod_of_pos a h0
  have b2 := Int.tmod_lt_of_pos a h0
  have e1 := Int.emod_nonneg a (b := m) (by omega)
  have e2 := Int.emod_lt_of_pos a h0
  have d1 := Int.mul_tdiv_add_tmod a m
  have d2 := Int.mul_ediv_add_emod a m
  have key : ∀ k : Int, a.tmod m - a % m = m * k → -m < a.tmod m - a % m + m → a.tmod m - a % m < m → a.tmod m - a % m = 0 ∨ a.tmod m - a % m = -m := by
    intro k hk h1 h2
    rcases (by omega : k ≤ -2 ∨ k = -1 ∨ k = 0 ∨ 1 ≤ k) with q | q | q | q
    · have := Int.mul_le_mul_of_nonneg_left q (by omega : 0 ≤ m)
      omega
    · subst q; right; omega
    · subst q; left; omega
    · have := Int.mul_le_mul_of_nonneg_left q (by omega : 0 ≤ m)
      omega
  have kk := key (a / m - a.tdiv m) (by rw [Int.mul_sub]; omega) (by omega) (by omega)
  refine ⟨fun h => ?_, fun h => ?_, b1, b2⟩ <;> omega
theorem qq_remI (v : Int32) {m : Nat} (hm : m < 2 ^ 31) : (v - v / nI m * nI m).toInt = v.toInt.tmod m := by
  rw [irem_eq_mod, Int32.toInt_mod, nI_toInt hm]
theorem qq_rX1 (v : Int32) {m : Nat} (h0 : 0 < m) (hm : m ≤ 12) (h : 0 ≤ v - v / nI m * nI m) : v - v / nI m * nI m = nI (qq_rest v m) := by
  have l := qq_rest_lt v h0
  have q := qq_tm_em v.toInt (m := (m : Int)) (by omega)
  have z := Int32.le_iff_toInt_le.mp h
  rw [qq_remI v (by omega), show (0 : Int32).toInt = 0 from by decide] at z
  refine Int32.toInt_inj.mp ?_
  rw [qq_remI v (by omega), nI_toInt (by omega)]
  have := q.1 z
  unfold qq_rest
  omega
theorem qq_rX2 (v : Int32) {m : Nat} (h0 : 0 < m) (hm : m ≤ 12) (h : ¬ 0 ≤ v - v / nI m * nI m) : v - v / nI m * nI m + nI m = nI (qq_rest v m) := by
  have l := qq_rest_lt v h0
  have q := qq_tm_em v.toInt (m := (m : Int)) (by omega)
  have z := Int32.lt_iff_toInt_lt.mp (Int32.not_le.mp h)
  rw [qq_remI v (by omega), show (0 : Int32).toInt = 0 from by decide] at z
  refine Int32.toInt_inj.mp ?_
  rw [Int32.toInt_add, qq_remI v (by omega), nI_toInt (by omega), nI_toInt (by omega), Int.bmod_eq_of_le (by omega) (by omega)]
  have := q.2.1 z
  unfold qq_rest
  omega
theorem qq_rY1 (v : Int32) {m : Nat} (h0 : 0 < m) (hm : m ≤ 12) : v - v / nI m * nI m + nI m - (v - v / nI m * nI m + nI m) / nI m * nI m = nI (qq_rest v m) := by
  have l := qq_rest_lt v h0
  by_cases h : 0 ≤ v - v / nI m * nI m
  · rw [qq_rX1 v h0 hm h, nI_add, pk_rem (by omega) h0 (by omega), Nat.add_mod_right, Nat.mod_eq_of_lt l]
  · rw [qq_rX2 v h0 hm h, pk_rem (by omega) h0 (by omega), Nat.mod_eq_of_lt l]
def qq_a (f : Nat → Int32) (m r x y z : Nat) : Nat := qq_rest (qq_rs f r x y z) m
theorem qq_a_lt (f : Nat → Int32) {m : Nat} (h0 : 0 < m) (r x y z : Nat) : qq_a f m r x y z < m := qq_rest_lt _ h0
theorem qq_lt2 {a b m n : Nat} (ha : a < n) (hb : b < m) : m * a + b < m * n := by
  have : m * (a + 1) ≤ m * n := Nat.mul_le_mul_left m ha
  rw [Nat.mul_succ] at this
  omega
/-! X's number of an image -/
def qq_kX (f : Nat → Int32) (m x y z : Nat) : Nat := m * (m * qq_a f m 0 x y z + qq_a f m 1 x y z) + qq_a f m 2 x y z
theorem qq_kX_lt (f : Nat → Int32) {m : Nat} (h0 : 0 < m) (x y z : Nat) : qq_kX f m x y z < m * m * m := by
  rw [Nat.mul_assoc]
  exact qq_lt2 (qq_lt2 (qq_a_lt f h0 _ _ _ _) (qq_a_lt f h0 _ _ _ _)) (qq_a_lt f h0 _ _ _ _)
theorem qq_inXs {post : Int32 → Prop} {f g : Nat → Int32} {x y z m n r q : Nat} (hr : r < 3) (h0 : 0 < m) (hm : m ≤ 12) (h : wX_imageNumber_6 post (nI x) (nI y) (nI z) (nI m) f g n (nI (m * q + qq_a f m r x y z)) (nI (r + 1))) : wX_imageNumber_6 post (nI x) (nI y) (nI z) (nI m) f g (n + 1) (nI q) (nI r) := by
  have e : nI q * nI m + nI (qq_a f m r x y z) = nI (m * q + qq_a f m r x y z) := by rw [pk_mul, nI_add, Nat.mul_comm]
  refine br_f (nI_ge (b := 3) hr (by omega)) (qq_rsX hr ⟨nI_ne0 h0 (by omega), nm_e (br_c (fun p => ?_) fun p => nm_e ?_)⟩)
  · rw [qq_rX1 _ h0 hm p]
    exact nm_r e (nm_r (nI_1 r) h)
  · rw [qq_rX2 _ h0 hm p]
    exact nm_r e (nm_r (nI_1 r) h)
theorem qq_inX {post : Int32 → Prop} {f g : Nat → Int32} {x y z m : Nat} (h0 : 0 < m) (hm : m ≤ 12) (h : post (nI (qq_kX f m x y z))) : wpX_imageNumber post (f, g) (nI x) (nI y) (nI z) (nI m) := by
  refine ⟨4, qq_inXs (r := 0) (q := 0) (by omega) h0 hm (qq_inXs (r := 1) (by omega) h0 hm (qq_inXs (r := 2) (by omega) h0 hm (br_t (by decide) ?_)))⟩
  rw [Nat.mul_zero, Nat.zero_add]
  exact h
/-! folds over tables -/
def qq_fo {σ : Type} (F : σ → Nat → σ) : Nat → Nat → σ → σ
  | 0, _, s => s
  | k + 1, i, s => qq_fo F k (i + 1) (F s i)
theorem qq_fo_K {σ : Type} {F : σ → Nat → σ} {K : σ → Prop} (h : ∀ s i, K s → K (F s i)) : ∀ k i s, K s → K (qq_fo F k i s) := by
  intro k
  induction k with
  | zero => intro i s hs; exact hs
  | succ k ih => intro i s hs; exact ih _ _ (h _ _ hs)
theorem qq_fo_V {σ : Type} {F : σ → Nat → σ} {T : σ → Nat → Prop} {V : Nat → Nat → Prop} (h : ∀ s i j, T (F s i) j ↔ T s j ∨ V i j) : ∀ k i s j, T (qq_fo F k i s) j ↔ T s j ∨ ∃ t, i ≤ t ∧ t < i + k ∧ V t j := by
  intro k
  induction k with
  | zero =>
    intro i s j
    exact ⟨Or.inl, fun q => q.elim id (fun ⟨t, a, b, _⟩ => by omega)⟩
  | succ k ih =>
    intro i s j
    show T (qq_fo F k (i + 1) (F s i)) j ↔ _
    rw [ih, h]
    constructor
    · rintro ((a | a) | ⟨t, a, b, c⟩)
      · exact Or.inl a
      · exact Or.inr ⟨i, by omega, by omega, a⟩
      · exact Or.inr ⟨t, by omega, by omega, c⟩
    · rintro (a | ⟨t, a, b, c⟩)
      · exact Or.inl (Or.inl a)
      · by_cases e : t = i
        · subst e; exact Or.inl (Or.inr c)
        · exact Or.inr ⟨t, by omega, by omega, c⟩
def qq_ind (g : Nat → Int32) (i : Nat) : Nat := if g i = 0 then 0 else 1
def qq_st (s : Nat × (Nat → Int32)) (i : Nat) : Nat × (Nat → Int32) := if s.2 i = 0 then (s.1 + 1, upd s.2 i 1) else s
theorem qq_upd1 (g : Nat → Int32) (i j : Nat) : upd g i 1 j ≠ 0 ↔ g j ≠ 0 ∨ i = j := by
  by_cases e : j = i
  · subst e
    rw [pk_us]
    exact ⟨fun _ => Or.inr rfl, fun _ => by decide⟩
  · rw [pk_un e]
    exact ⟨Or.inl, fun q => q.elim id (fun z => absurd z.symm e)⟩
theorem qq_st_V (s : Nat × (Nat → Int32)) (i j : Nat) : (qq_st s i).2 j ≠ 0 ↔ s.2 j ≠ 0 ∨ i = j := by
  unfold qq_st
  by_cases z : s.2 i = 0
  · rw [if_pos z]
    exact qq_upd1 _ _ _
  · rw [if_neg z]
    exact ⟨Or.inl, fun q => q.elim id (fun e => e ▸ z)⟩
theorem qq_st_K {s : Nat × (Nat → Int32)} {i : Nat} (hi : i < 1728) (h : s.1 = qq_su (qq_ind s.2) 1728) : (qq_st s i).1 = qq_su (qq_ind (qq_st s i).2) 1728 := by
  unfold qq_st
  by_cases z : s.2 i = 0
  · rw [if_pos z]
    show s.1 + 1 = qq_su (qq_ind (upd s.2 i 1)) 1728
    rw [h]
    refine (qq_su_one (c := i) ?_ (fun j hj => ?_) 1728 hi).symm
    · unfold qq_ind
      rw [pk_us, if_pos z, if_neg (by decide)]
    · unfold qq_ind
      rw [pk_un hj]
  · rw [if_neg z]
    exact h
def qq_Z (f : Nat → Int32) (m x y : Nat) (s : Nat × (Nat → Int32)) (z : Nat) : Nat × (Nat → Int32) := qq_st s (qq_kX f m x y z)
def qq_Yf (f : Nat → Int32) (m x : Nat) (s : Nat × (Nat → Int32)) (y : Nat) : Nat × (Nat → Int32) := qq_fo (qq_Z f m x y) m 0 s
def qq_Xf (f : Nat → Int32) (m : Nat) (s : Nat × (Nat → Int32)) (x : Nat) : Nat × (Nat → Int32) := qq_fo (qq_Yf f m x) m 0 s
theorem qq_nb1 : vp_nar .boolean 1 = 1 := by decide
theorem qq_nb0 : vp_nar .boolean 0 = 0 := by decide
theorem qq_iX35 {post : Int32 → SX → Prop} {J18 J26 : Int32 → Int32 → (Nat → Int32) → (Nat → Int32) → Prop} {f : Nat → Int32} {m x y : Nat} (h0 : 0 < m) (hm : m ≤ 12) : ∀ k z s n, z + k = m → k < n → J26 (nI (qq_fo (qq_Z f m x y) k z s).1) (nI (y + 1)) f (qq_fo (qq_Z f m x y) k z s).2 → wX_imageCount_35 post J18 J26 (nI m) (nI x) (nI y) n (nI s.1) (nI z) f s.2 := by
  intro k
  induction k with
  | zero =>
    intro z s n hz hn h
    obtain ⟨n, rfl⟩ : ∃ q, n = q + 1 := ⟨n - 1, by omega⟩
    obtain rfl : z = m := by omega
    exact br_t (Int32.le_refl _) (nm_r (nI_1 y) h)
  | succ k ih =>
    intro z s n hz hn h
    obtain ⟨n, rfl⟩ : ∃ q, n = q + 1 := ⟨n - 1, by omega⟩
    have lt : qq_kX f m x y z < 1728 := Nat.lt_of_lt_of_le (qq_kX_lt f h0 x y z) (qq_cube hm)
    have nx := ih (z + 1) (qq_st s (qq_kX f m x y z)) n (by omega) (by omega) h
    refine br_f (nI_ge (by omega) (by omega)) (qq_inX h0 hm ?_)
    rw [nI_clamp (by omega), qq_nb1, nI_1, nI_1]
    refine ⟨vp_in_nI lt (by omega), ?_⟩
    by_cases e : s.2 (qq_kX f m x y z) = 0
    · have q : qq_st s (qq_kX f m x y z) = (s.1 + 1, upd s.2 (qq_kX f m x y z) 1) := if_pos e
      rw [q] at nx
      exact br_t e ⟨vp_in_nI lt (by omega), nm_e (nm_e (nm_e nx))⟩
    · have q : qq_st s (qq_kX f m x y z) = s := if_neg e
      rw [q] at nx
      exact br_f e (nm_e nx)
theorem qq_iX26 {post : Int32 → SX → Prop} {J18 : Int32 → Int32 → (Nat → Int32) → (Nat → Int32) → Prop} {f : Nat → Int32} {m x : Nat} (h0 : 0 < m) (hm : m ≤ 12) : ∀ k y s n, y + k = m → k < n → J18 (nI (qq_fo (qq_Yf f m x) k y s).1) (nI (x + 1)) f (qq_fo (qq_Yf f m x) k y s).2 → wX_imageCount_26 post J18 (nI m) (nI x) n (nI s.1) (nI y) f s.2 := by
  intro k
  induction k with
  | zero =>
    intro y s n hy hn h
    obtain ⟨n, rfl⟩ : ∃ q, n = q + 1 := ⟨n - 1, by omega⟩
    obtain rfl : y = m := by omega
    exact br_t (Int32.le_refl _) (nm_r (nI_1 x) h)
  | succ k ih =>
    intro y s n hy hn h
    obtain ⟨n, rfl⟩ : ∃ q, n = q + 1 := ⟨n - 1, by omega⟩
    have nx := ih (y + 1) (qq_Yf f m x s y) n (by omega) (by omega) h
    exact br_f (nI_ge (by omega) (by omega)) ⟨m + 1, qq_iX35 h0 hm m 0 s (m + 1) (by omega) (by omega) nx⟩
theorem qq_iX18 {post : Int32 → SX → Prop} {f : Nat → Int32} {m : Nat} (h0 : 0 < m) (hm : m ≤ 12) : ∀ k x s n, x + k = m → k < n → post (nI (qq_fo (qq_Xf f m) k x s).1) (f, (qq_fo (qq_Xf f m) k x s).2) → wX_imageCount_18 post (nI m) n (nI s.1) (nI x) f s.2 := by
  intro k
  induction k with
  | zero =>
    intro x s n hx hn h
    obtain ⟨n, rfl⟩ : ∃ q, n = q + 1 := ⟨n - 1, by omega⟩
    obtain rfl : x = m := by omega
    exact br_t (Int32.le_refl _) h
  | succ k ih =>
    intro x s n hx hn h
    obtain ⟨n, rfl⟩ : ∃ q, n = q + 1 := ⟨n - 1, by omega⟩
    have nx := ih (x + 1) (qq_Xf f m s x) n (by omega) (by omega) h
    exact br_f (nI_ge (by omega) (by omega)) ⟨m + 1, qq_iX26 h0 hm m 0 s (m + 1) (by omega) (by omega) nx⟩
theorem qq_clr {g : Nat → Int32} {i : Nat} (h : ∀ j, j < i → g j = 0) : ∀ j, j < i + 1 → upd g i 0 j = 0 := by
  intro j hj
  by_cases e : j = i
  · subst e; exact pk_us
  · rw [pk_un e]; exact h j (by omega)
theorem qq_fg {post : SX → Prop} {f : Nat → Int32} (hp : ∀ g', (∀ j, j < 1728 → g' j = 0) → post (f, g')) : ∀ k i g n, i + k = 1728 → k < n → (∀ j, j < i → g j = 0) → wX_forgetSeen_2 post n (nI i) f g := by
  intro k
  induction k with
  | zero =>
    intro i g n hi hn h
    obtain ⟨n, rfl⟩ : ∃ q, n = q + 1 := ⟨n - 1, by omega⟩
    obtain rfl : i = 1728 := by omega
    exact br_t (Int32.le_refl _) (hp g h)
  | succ k ih =>
    intro i g n hi hn h
    obtain ⟨n, rfl⟩ : ∃ q, n = q + 1 := ⟨n - 1, by omega⟩
    refine br_f (nI_ge (b := 1728) (by omega) (by omega)) ?_
    rw [nI_clamp (by omega), qq_nb0, nI_1]
    exact ⟨vp_in_nI (by omega) (by omega), nm_e (nm_e (ih (i + 1) _ n (by omega) (by omega) (qq_clr h)))⟩
/-! Y -/
def qq_kY (f : Nat → Int32) (m x y z : Nat) : Nat := m * (m * qq_a f m 2 x y z + qq_a f m 1 x y z) + qq_a f m 0 x y z
theorem qq_kY_lt (f : Nat → Int32) {m : Nat} (h0 : 0 < m) (x y z : Nat) : qq_kY f m x y z < m * m * m := by
  rw [Nat.mul_assoc]
  exact qq_lt2 (qq_lt2 (qq_a_lt f h0 _ _ _ _) (qq_a_lt f h0 _ _ _ _)) (qq_a_lt f h0 _ _ _ _)
def qq_L (f : Nat → Int32) (m : Nat) (g : Nat → Int32) (l : Nat) : Nat → Int32 := upd g (qq_kY f m (l % m) (l / m % m) (l / m / m)) 1
theorem qq_sh (m a b c : Nat) : a + m * (b + m * c) = m * (m * c + b) + a := by rw [Nat.add_comm b, Nat.add_comm a]
theorem qq_reY {post : Int32 → Prop} {u : SY} {v : Int32} {m : Nat} (h0 : 0 < m) (hm : m ≤ 12) (h : post (nI (qq_rest v m))) : wpY_rest post u v (nI m) := by
  obtain ⟨f, g⟩ := u
  unfold wpY_rest
  dsimp only
  rw [qq_rY1 v h0 hm]
  exact ⟨nI_ne0 h0 (by omega), nI_ne0 h0 (by omega), h⟩
theorem qq_iY38 {post : Int32 → SY → Prop} {f : Nat → Int32} {m : Nat} (h0 : 0 < m) (hm : m ≤ 12) : ∀ k l g n, l + k = m * m * m → k < n → (∃ n127, wY_imageCount_127 post f (qq_fo (qq_L f m) k l g) n127 0 0) → wY_imageCount_38 post (nI m) n (nI l) f g := by
  have hM := qq_cube hm
  have hlt : ∀ x y z, qq_kY f m x y z < m * m * m := qq_kY_lt f h0
  generalize eM : m * m * m = M at hM hlt
  intro k
  induction k with
  | zero =>
    intro l g n hl hn h
    obtain ⟨n, rfl⟩ : ∃ q, n = q + 1 := ⟨n - 1, by omega⟩
    obtain rfl : l = M := by omega
    exact br_t (by rw [qq_mmm, eM]; exact Int32.le_refl _) h
  | succ k ih =>
    intro l g n hl hn h
    obtain ⟨n, rfl⟩ : ∃ q, n = q + 1 := ⟨n - 1, by omega⟩
    have nx := ih (l + 1) (qq_L f m g l) n (by omega) (by omega) h
    have lt := hlt (l % m) (l / m % m) (l / m / m)
    refine br_f (by rw [qq_mmm, eM]; exact nI_ge (by omega) (by omega)) ?_
    refine qq_rsY (r := 0) (by omega) (by omega) h0 (by omega) (qq_rsY (r := 1) (by omega) (by omega) h0 (by omega) (qq_rsY (r := 2) (by omega) (by omega) h0 (by omega) ?_))
    refine qq_reY h0 hm (qq_reY h0 hm (qq_reY h0 hm ?_))
    have e : nI (qq_rest (qq_rs f 0 (l % m) (l / m % m) (l / m / m)) m) + nI m * (nI (qq_rest (qq_rs f 1 (l % m) (l / m % m) (l / m / m)) m) + nI m * nI (qq_rest (qq_rs f 2 (l % m) (l / m % m) (l / m / m)) m)) = nI (qq_kY f m (l % m) (l / m % m) (l / m / m)) := by
      rw [pk_mul, nI_add, pk_mul, nI_add]
      unfold qq_kY qq_a
      congr 1
      exact qq_sh _ _ _ _
    rw [e, nI_clamp (by omega), qq_nb1, nI_1]
    exact ⟨vp_in_nI (by omega) (by omega), nm_e (nm_e nx)⟩
theorem qq_iY127 {post : Int32 → SY → Prop} {f g : Nat → Int32} (h : post (nI (qq_su (qq_ind g) 1728)) (f, g)) : ∀ k i n, i + k = 1728 → k < n → wY_imageCount_127 post f g n (nI (qq_su (qq_ind g) i)) (nI i) := by
  intro k
  induction k with
  | zero =>
    intro i n hi hn
    obtain ⟨n, rfl⟩ : ∃ q, n = q + 1 := ⟨n - 1, by omega⟩
    obtain rfl : i = 1728 := by omega
    exact br_t (Int32.le_refl _) h
  | succ k ih =>
    intro i n hi hn
    obtain ⟨n, rfl⟩ : ∃ q, n = q + 1 := ⟨n - 1, by omega⟩
    have nx := ih (i + 1) n (by omega) (by omega)
    have e : qq_su (qq_ind g) (i + 1) = qq_su (qq_ind g) i + qq_ind g i := rfl
    rw [e] at nx
    refine br_f (nI_ge (b := 1728) (by omega) (by omega)) ?_
    rw [nI_clamp (by omega), nI_1, nI_1]
    refine ⟨vp_in_nI (by omega) (by omega), ?_⟩
    by_cases z : g i = 0
    · have q : qq_ind g i = 0 := if_pos z
      rw [q] at nx
      exact br_t z (nm_e nx)
    · have q : qq_ind g i = 1 := if_neg z
      rw [q] at nx
      exact br_f z (nm_e (nm_e nx))
theorem qq_iY16 {post : Int32 → SY → Prop} {f : Nat → Int32} {x1 : Int32} (hp : ∀ g', (∀ j, j < 1728 → g' j = 0) → ∃ n38, wY_imageCount_38 post x1 n38 0 f g') : ∀ k i g n, i + k = 1728 → k < n → (∀ j, j < i → g j = 0) → wY_imageCount_16 post x1 n (nI i) f g := by
  intro k
  induction k with
  | zero =>
    intro i g n hi hn h
    obtain ⟨n, rfl⟩ : ∃ q, n = q + 1 := ⟨n - 1, by omega⟩
    obtain rfl : i = 1728 := by omega
    exact br_t (Int32.le_refl _) (hp g h)
  | succ k ih =>
    intro i g n hi hn h
    obtain ⟨n, rfl⟩ : ∃ q, n = q + 1 := ⟨n - 1, by omega⟩
    refine br_f (nI_ge (b := 1728) (by omega) (by omega)) ?_
    rw [nI_clamp (by omega), qq_nb0, nI_1]
    exact ⟨vp_in_nI (by omega) (by omega), nm_e (nm_e (ih (i + 1) _ n (by omega) (by omega) (qq_clr h)))⟩
/-! the two tables have equally many marks -/
def qq_T (f : Nat → Int32) (m a b c : Nat) : Prop := ∃ x y z, x < m ∧ y < m ∧ z < m ∧ qq_a f m 0 x y z = a ∧ qq_a f m 1 x y z = b ∧ qq_a f m 2 x y z = c
theorem qq_dig {m a b c a' b' c' : Nat} (hb : b < m) (hc : c < m) (hb' : b' < m) (hc' : c' < m) (e : m * (m * a + b) + c = m * (m * a' + b') + c') : a = a' ∧ b = b' ∧ c = c' := by
  have c1 := congrArg (· % m) e
  have d1 := congrArg (· / m) e
  simp only [qq_dm hc, qq_dm hc', qq_dd hc, qq_dd hc'] at c1 d1
  have c2 := congrArg (· % m) d1
  have d2 := congrArg (· / m) d1
  simp only [qq_dm hb, qq_dm hb', qq_dd hb, qq_dd hb'] at c2 d2
  exact ⟨d2, c2, c1⟩
theorem qq_fin {f gX gY : Nat → Int32} {m : Nat} (h0 : 0 < m) (hm : m ≤ 12) (hX : ∀ j, j < 1728 → (gX j ≠ 0 ↔ ∃ x y z, x < m ∧ y < m ∧ z < m ∧ qq_kX f m x y z = j)) (hY : ∀ j, j < 1728 → (gY j ≠ 0 ↔ ∃ x y z, x < m ∧ y < m ∧ z < m ∧ qq_kY f m x y z = j)) : qq_su (qq_ind gX) 1728 = qq_su (qq_ind gY) 1728 := by
  have hM := qq_cube hm
  have cut : ∀ (g : Nat → Int32) (k : Nat → Nat → Nat → Nat), (∀ x y z, k x y z < m * m * m) → (∀ j, j < 1728 → (g j ≠ 0 ↔ ∃ x y z, x < m ∧ y < m ∧ z < m ∧ k x y z = j)) → qq_su (qq_ind g) 1728 = qq_su (qq_ind g) (m * m * m) := by
    intro g k hk hg
    obtain ⟨d, e⟩ : ∃ d, 1728 = m * m * m + d := ⟨1728 - m * m * m, by omega⟩
    rw [e, qq_su_add, qq_su_congr (G := fun _ => 0) d (fun i hi => ?_), qq_su_zero, Nat.add_zero]
    refine if_pos (Decidable.byContradiction fun z => ?_)
    obtain ⟨x, y, w, _, _, _, q⟩ := (hg (m * m * m + i) (by omega)).mp z
    have := hk x y w
    omega
  rw [cut gX _ (qq_kX_lt f h0) hX, cut gY _ (qq_kY_lt f h0) hY]
  have dg : ∀ G : Nat → Nat, qq_su G (m * m * m) = qq_su (fun a => qq_su (fun b => qq_su (fun c => G (m * (m * a + b) + c)) m) m) m := by
    intro G
    rw [Nat.mul_assoc, qq_su_mul, qq_su_mul]
  rw [dg (qq_ind gX), dg (qq_ind gY)]
  refine (qq_tri' (fun c b a => qq_ind gX (m * (m * a + b) + c)) m).trans ?_
  refine qq_su_congr m (fun p hp => qq_su_congr m (fun q hq => qq_su_congr m (fun r hr => ?_)))
  have tX := hX (m * (m * r + q) + p) (Nat.lt_of_lt_of_le (by rw [Nat.mul_assoc]; exact qq_lt2 (qq_lt2 hr hq) hp) hM)
  have tY := hY (m * (m * p + q) + r) (Nat.lt_of_lt_of_le (by rw [Nat.mul_assoc]; exact qq_lt2 (qq_lt2 hp hq) hr) hM)
  have iff : gX (m * (m * r + q) + p) ≠ 0 ↔ gY (m * (m * p + q) + r) ≠ 0 := by
    rw [tX, tY]
    constructor
    · rintro ⟨x, y, z, hx, hy, hz, e⟩
      obtain ⟨a, b, c⟩ := qq_dig (qq_a_lt f h0 _ _ _ _) (qq_a_lt f h0 _ _ _ _) hq hp e
      exact ⟨x, y, z, hx, hy, hz, by unfold qq_kY; rw [a, b, c]⟩
    · rintro ⟨x, y, z, hx, hy, hz, e⟩
      obtain ⟨a, b, c⟩ := qq_dig (qq_a_lt f h0 _ _ _ _) (qq_a_lt f h0 _ _ _ _) hq hr e
      exact ⟨x, y, z, hx, hy, hz, by unfold qq_kX; rw [a, b, c]⟩
  show qq_ind gX (m * (m * r + q) + p) = qq_ind gY (m * (m * p + q) + r)
  unfold qq_ind
  by_cases z : gX (m * (m * r + q) + p) = 0
  · rw [if_pos z, if_pos (Decidable.byContradiction fun w => iff.mpr w z)]
  · rw [if_neg z, if_neg (iff.mp z)]
theorem qq_endX {f g : Nat → Int32} {m : Nat} (h0 : 0 < m) (hm : m ≤ 12) (hg : ∀ j, j < 1728 → g j = 0) : (∀ j, j < 1728 → ((qq_fo (qq_Xf f m) m 0 (0, g)).2 j ≠ 0 ↔ ∃ x y z, x < m ∧ y < m ∧ z < m ∧ qq_kX f m x y z = j)) ∧ (qq_fo (qq_Xf f m) m 0 (0, g)).1 = qq_su (qq_ind (qq_fo (qq_Xf f m) m 0 (0, g)).2) 1728 := by
  constructor
  · intro j hj
    have v1 : ∀ x y (s : Nat × (Nat → Int32)) z j, (qq_Z f m x y s z).2 j ≠ 0 ↔ s.2 j ≠ 0 ∨ qq_kX f m x y z = j := fun x y s z j => qq_st_V _ _ _
    have v2 := fun x (s : Nat × (Nat → Int32)) y j => qq_fo_V (T := fun s j => s.2 j ≠ 0) (v1 x y) m 0 s j
    have v3 := fun (s : Nat × (Nat → Int32)) x j => qq_fo_V (F := qq_Yf f m x) (T := fun s j => s.2 j ≠ 0) (v2 x) m 0 s j
    have v4 := qq_fo_V (F := qq_Xf f m) (T := fun s j => s.2 j ≠ 0) v3 m 0 (0, g) j
    refine v4.trans ⟨?_, ?_⟩
    · rintro (a | ⟨x, _, hx, y, _, hy, z, _, hz, e⟩)
      · exact absurd (hg j hj) a
      · exact ⟨x, y, z, by omega, by omega, by omega, e⟩
    · rintro ⟨x, y, z, hx, hy, hz, e⟩
      exact Or.inr ⟨x, by omega, by omega, y, by omega, by omega, z, by omega, by omega, e⟩
  · have k1 : ∀ x y (s : Nat × (Nat → Int32)) z, s.1 = qq_su (qq_ind s.2) 1728 → (qq_Z f m x y s z).1 = qq_su (qq_ind (qq_Z f m x y s z).2) 1728 := fun x y s z h => qq_st_K (Nat.lt_of_lt_of_le (qq_kX_lt f h0 x y z) (qq_cube hm)) h
    refine qq_fo_K (K := fun s : Nat × (Nat → Int32) => s.1 = qq_su (qq_ind s.2) 1728) (fun s x hs => qq_fo_K (K := fun s : Nat × (Nat → Int32) => s.1 = qq_su (qq_ind s.2) 1728) (fun s y hs => qq_fo_K (K := fun s : Nat × (Nat → Int32) => s.1 = qq_su (qq_ind s.2) 1728) (k1 x y) _ _ _ hs) _ _ _ hs) _ _ _ ?_
    show 0 = qq_su (qq_ind g) 1728
    rw [qq_su_congr (F := qq_ind g) (G := fun _ => 0) 1728 (fun i hi => if_pos (hg i hi)), qq_su_zero]
theorem qq_endY {f g : Nat → Int32} {m : Nat} (h0 : 0 < m) (hg : ∀ j, j < 1728 → g j = 0) : ∀ j, j < 1728 → ((qq_fo (qq_L f m) (m * m * m) 0 g) j ≠ 0 ↔ ∃ x y z, x < m ∧ y < m ∧ z < m ∧ qq_kY f m x y z = j) := by
  intro j hj
  have v := qq_fo_V (F := qq_L f m) (T := fun g j => g j ≠ 0) (V := fun l j => qq_kY f m (l % m) (l / m % m) (l / m / m) = j) (fun s i j => qq_upd1 _ _ _) (m * m * m) 0 g j
  refine v.trans ⟨?_, ?_⟩
  · rintro (a | ⟨l, _, hl, e⟩)
    · exact absurd (hg j hj) a
    · refine ⟨l % m, l / m % m, l / m / m, Nat.mod_lt _ h0, Nat.mod_lt _ h0, ?_, e⟩
      refine Nat.div_lt_of_lt_mul (Nat.div_lt_of_lt_mul ?_)
      rw [← Nat.mul_assoc]
      omega
  · rintro ⟨x, y, z, hx, hy, hz, e⟩
    refine Or.inr ⟨m * (m * z + y) + x, by omega, ?_, ?_⟩
    · have := qq_lt2 (qq_lt2 hz hy) hx
      rw [← Nat.mul_assoc] at this
      omega
    · show qq_kY f m _ _ _ = j
      rw [qq_dm hx, qq_dd hx, qq_dm hy, qq_dd hy]
      exact e
