/-! solvableBy, nullCount, firstFailure -/
def qq_rs (f : Nat → Int32) (r x y z : Nat) : Int32 := f (r * 4) * nI x + f (r * 4 + 1) * nI y + f (r * 4 + 2) * nI z
def qq_ex (f : Nat → Int32) (t r x y z : Nat) : Int32 := qq_rs f r x y z - (if t = 0 then 0 else f (r * 4 + 3))
def qq_row (f : Nat → Int32) (t m r x y z : Nat) : Prop := qq_ex f t r x y z - qq_ex f t r x y z / nI m * nI m = 0
def qq_P (f : Nat → Int32) (t m x y z : Nat) : Prop := qq_row f t m 0 x y z ∧ qq_row f t m 1 x y z ∧ qq_row f t m 2 x y z
theorem qq_ix0 (r : Nat) : nI r * 4 = nI (r * 4) := pk_mul r 4
theorem qq_iy0 (r : Nat) : 4 * nI r = nI (r * 4) := by rw [show (4 : Int32) = nI 4 from rfl, pk_mul, Nat.mul_comm]
theorem qq_ixk (r k : Nat) : nI (r * 4) + nI k = nI (r * 4 + k) := nI_add _ _
theorem qq_rsX {post : Int32 → Prop} {f g : Nat → Int32} {r x y z : Nat} (hr : r < 3) (h : post (qq_rs f r x y z)) : wpX_rowSum post (f, g) (nI r) (nI x) (nI y) (nI z) := by
  have e1 : nI (r * 4) + 1 = nI (r * 4 + 1) := nI_1 _
  have e2 : nI (r * 4) + 2 = nI (r * 4 + 2) := nI_add _ 2
  unfold wpX_rowSum
  dsimp only
  rw [qq_ix0, e1, e2, nI_clamp (by omega), nI_clamp (by omega), nI_clamp (by omega)]
  exact ⟨vp_in_nI (by omega) (by omega), vp_in_nI (by omega) (by omega), vp_in_nI (by omega) (by omega), h⟩
theorem qq_rsY {post : Int32 → Prop} {f g : Nat → Int32} {r l m : Nat} (hr : r < 3) (hl : l < 2 ^ 31) (h0 : 0 < m) (hm : m < 2 ^ 31) (h : post (qq_rs f r (l % m) (l / m % m) (l / m / m))) : wpY_sum post (f, g) (nI r) (nI l) (nI m) := by
  have e1 : nI (r * 4) + 1 = nI (r * 4 + 1) := nI_1 _
  have e2 : nI (r * 4) + 2 = nI (r * 4 + 2) := nI_add _ 2
  have hq : l / m < 2 ^ 31 := Nat.lt_of_le_of_lt (Nat.div_le_self l m) hl
  have hz : ¬ nI m = 0 := nI_ne0 h0 hm
  unfold wpY_sum
  dsimp only
  rw [qq_iy0, e1, e2, nI_clamp (by omega), nI_clamp (by omega), nI_clamp (by omega), pk_rem hl h0 hm, pk_div hl h0 hm, pk_rem hq h0 hm, pk_div hq h0 hm]
  exact ⟨vp_in_nI (by omega) (by omega), hz, vp_in_nI (by omega) (by omega), hz, hz, vp_in_nI (by omega) (by omega), hz, hz, h⟩
theorem qq_tm {t : Nat} (ht : t ≤ 1) (b : Int32) : nI t * b = if t = 0 then 0 else b := by
  match t, ht with
  | 0, _ => exact Int32.zero_mul
  | 1, _ => exact Int32.one_mul b
theorem qq_isXs {post : Int32 → Prop} {f g : Nat → Int32} {x y z m t n r : Nat} (hr : r < 3) (h0 : 0 < m) (hm : m < 2 ^ 31) (ht : t ≤ 1) (h1 : qq_row f t m r x y z → wX_isSolution_3 post (nI x) (nI y) (nI z) (nI m) (nI t) f g n (nI (r + 1))) (h2 : ¬ qq_row f t m r x y z → post 0) : wX_isSolution_3 post (nI x) (nI y) (nI z) (nI m) (nI t) f g (n + 1) (nI r) := by
  have e3 : nI r * 4 + 3 = nI (r * 4 + 3) := qq_ix r 3
  refine br_f (nI_ge (b := 3) hr (by omega)) (qq_rsX hr ?_)
  rw [e3, nI_clamp (by omega), qq_tm ht, nI_1]
  exact ⟨vp_in_nI (by omega) (by omega), nm_e ⟨nI_ne0 h0 hm, br_c (fun q => nm_e (h1 q)) h2⟩⟩
theorem qq_isX {post : Int32 → Prop} {f g : Nat → Int32} {x y z m t : Nat} (h0 : 0 < m) (hm : m < 2 ^ 31) (ht : t ≤ 1) (h1 : qq_P f t m x y z → post 1) (h2 : ¬ qq_P f t m x y z → post 0) : wpX_isSolution post (f, g) (nI x) (nI y) (nI z) (nI m) (nI t) := by
  refine ⟨4, qq_isXs (r := 0) (by omega) h0 hm ht (fun a => qq_isXs (r := 1) (by omega) h0 hm ht (fun b => qq_isXs (r := 2) (by omega) h0 hm ht (fun c => br_t (by decide) (h1 ⟨a, b, c⟩)) fun c => h2 fun q => c q.2.2) fun b => h2 fun q => b q.2.1) fun a => h2 fun q => a q.1⟩
theorem qq_isYs {post : Int32 → Prop} {f g : Nat → Int32} {l m t n r : Nat} (hr : r < 3) (hl : l < 2 ^ 31) (h0 : 0 < m) (hm : m < 2 ^ 31) (ht : t ≤ 1) (h1 : qq_row f t m r (l % m) (l / m % m) (l / m / m) → wY_fits_3 post (nI l) (nI m) (nI (1 - t)) f g n (nI (r + 1))) (h2 : ¬ qq_row f t m r (l % m) (l / m % m) (l / m / m) → post 0) : wY_fits_3 post (nI l) (nI m) (nI (1 - t)) f g (n + 1) (nI r) := by
  have e3 : 4 * nI r + 3 = nI (r * 4 + 3) := qq_iy r 3
  refine br_f (nI_ge (b := 3) hr (by omega)) (qq_rsY hr hl h0 hm ?_)
  rw [e3, nI_clamp (by omega)]
  match t, ht with
  | 0, _ => exact br_f (by decide) ⟨nI_ne0 h0 hm, br_c (fun q => nm_r (nI_1 r) (h1 q)) h2⟩
  | 1, _ => exact br_t rfl ⟨vp_in_nI (by omega) (by omega), nI_ne0 h0 hm, br_c (fun q => nm_r (nI_1 r) (h1 q)) h2⟩
theorem qq_isY {post : Int32 → Prop} {f g : Nat → Int32} {l m t : Nat} (hl : l < 2 ^ 31) (h0 : 0 < m) (hm : m < 2 ^ 31) (ht : t ≤ 1) (h1 : qq_P f t m (l % m) (l / m % m) (l / m / m) → post 1) (h2 : ¬ qq_P f t m (l % m) (l / m % m) (l / m / m) → post 0) : wpY_fits post (f, g) (nI l) (nI m) (nI (1 - t)) := by
  refine ⟨4, qq_isYs (r := 0) (by omega) hl h0 hm ht (fun a => qq_isYs (r := 1) (by omega) hl h0 hm ht (fun b => qq_isYs (r := 2) (by omega) hl h0 hm ht (fun c => br_t (by decide) (h1 ⟨a, b, c⟩)) fun c => h2 fun q => c q.2.2) fun b => h2 fun q => b q.2.1) fun a => h2 fun q => a q.1⟩
noncomputable def qq_C (f : Nat → Int32) (t m x y z : Nat) : Nat := @ite _ (qq_P f t m x y z) (Classical.propDecidable _) 1 0
theorem qq_C1 {f : Nat → Int32} {t m x y z : Nat} (h : qq_P f t m x y z) : qq_C f t m x y z = 1 := if_pos h
theorem qq_C0 {f : Nat → Int32} {t m x y z : Nat} (h : ¬ qq_P f t m x y z) : qq_C f t m x y z = 0 := if_neg h
theorem qq_Cle (f : Nat → Int32) (t m x y z : Nat) : qq_C f t m x y z ≤ 1 := by
  by_cases h : qq_P f t m x y z
  · rw [qq_C1 h]; omega
  · rw [qq_C0 h]; omega
/-! X's count -/
theorem qq_cX23 {post : Int32 → Prop} {J5 J14 : Int32 → Int32 → Prop} {f g : Nat → Int32} {m t x y b : Nat} (h0 : 0 < m) (hm : m < 2 ^ 31) (ht : t ≤ 1) (h : J14 (nI (b + qq_su (fun z => qq_C f t m x y z) m)) (nI (y + 1))) : ∀ k z n, z + k = m → k < n → wX_countSolutions_23 post J5 J14 (nI m) (nI t) (nI x) (nI y) f g n (nI (b + qq_su (fun z => qq_C f t m x y z) z)) (nI z) := by
  intro k
  induction k with
  | zero =>
    intro z n hz hn
    obtain ⟨n, rfl⟩ : ∃ q, n = q + 1 := ⟨n - 1, by omega⟩
    obtain rfl : z = m := by omega
    exact br_t (Int32.le_refl _) (nm_r (nI_1 y) h)
  | succ k ih =>
    intro z n hz hn
    obtain ⟨n, rfl⟩ : ∃ q, n = q + 1 := ⟨n - 1, by omega⟩
    have nx := ih (z + 1) n (by omega) (by omega)
    have e : qq_su (fun z => qq_C f t m x y z) (z + 1) = qq_su (fun z => qq_C f t m x y z) z + qq_C f t m x y z := rfl
    rw [e] at nx
    refine br_f (nI_ge (by omega) (by omega)) (qq_isX h0 hm ht (fun p => br_f (by decide) (nm_r (nI_1 _) (nm_r (nI_1 z) ?_))) fun p => br_t rfl (nm_r (nI_1 z) ?_))
    · rw [qq_C1 p] at nx
      exact nx
    · rw [qq_C0 p] at nx
      exact nx
theorem qq_cX14 {post : Int32 → Prop} {J5 : Int32 → Int32 → Prop} {f g : Nat → Int32} {m t x b : Nat} (h0 : 0 < m) (hm : m < 2 ^ 31) (ht : t ≤ 1) (h : J5 (nI (b + qq_su (fun y => qq_su (fun z => qq_C f t m x y z) m) m)) (nI (x + 1))) : ∀ k y n, y + k = m → k < n → wX_countSolutions_14 post J5 (nI m) (nI t) (nI x) f g n (nI (b + qq_su (fun y => qq_su (fun z => qq_C f t m x y z) m) y)) (nI y) := by
  intro k
  induction k with
  | zero =>
    intro y n hy hn
    obtain ⟨n, rfl⟩ : ∃ q, n = q + 1 := ⟨n - 1, by omega⟩
    obtain rfl : y = m := by omega
    exact br_t (Int32.le_refl _) (nm_r (nI_1 x) h)
  | succ k ih =>
    intro y n hy hn
    obtain ⟨n, rfl⟩ : ∃ q, n = q + 1 := ⟨n - 1, by omega⟩
    have nx := ih (y + 1) n (by omega) (by omega)
    have e : qq_su (fun y => qq_su (fun z => qq_C f t m x y z) m) (y + 1) = qq_su (fun y => qq_su (fun z => qq_C f t m x y z) m) y + qq_su (fun z => qq_C f t m x y z) m := rfl
    rw [e, ← Nat.add_assoc] at nx
    exact br_f (nI_ge (by omega) (by omega)) ⟨m + 1, qq_cX23 h0 hm ht nx m 0 (m + 1) (by omega) (by omega)⟩
theorem qq_cX5 {post : Int32 → Prop} {f g : Nat → Int32} {m t : Nat} (h0 : 0 < m) (hm : m < 2 ^ 31) (ht : t ≤ 1) (h : post (nI (qq_su (fun x => qq_su (fun y => qq_su (fun z => qq_C f t m x y z) m) m) m))) : ∀ k x n, x + k = m → k < n → wX_countSolutions_5 post (nI m) (nI t) f g n (nI (qq_su (fun x => qq_su (fun y => qq_su (fun z => qq_C f t m x y z) m) m) x)) (nI x) := by
  intro k
  induction k with
  | zero =>
    intro x n hx hn
    obtain ⟨n, rfl⟩ : ∃ q, n = q + 1 := ⟨n - 1, by omega⟩
    obtain rfl : x = m := by omega
    exact br_t (Int32.le_refl _) h
  | succ k ih =>
    intro x n hx hn
    obtain ⟨n, rfl⟩ : ∃ q, n = q + 1 := ⟨n - 1, by omega⟩
    have nx := ih (x + 1) n (by omega) (by omega)
    exact br_f (nI_ge (by omega) (by omega)) ⟨m + 1, qq_cX14 h0 hm ht nx m 0 (m + 1) (by omega) (by omega)⟩
noncomputable def qq_N (f : Nat → Int32) (t m : Nat) : Nat := qq_su (fun l => qq_C f t m (l % m) (l / m % m) (l / m / m)) (m * m * m)
theorem qq_cX {post : Int32 → Prop} {f g : Nat → Int32} {m t : Nat} (h0 : 0 < m) (hm : m < 2 ^ 31) (ht : t ≤ 1) (h : post (nI (qq_N f t m))) : wpX_countSolutions post (f, g) (nI m) (nI t) := by
  unfold qq_N at h
  rw [qq_tri, qq_tri'] at h
  exact ⟨m + 1, qq_cX5 h0 hm ht h m 0 (m + 1) (by omega) (by omega)⟩
theorem qq_cube {m : Nat} (hm : m ≤ 12) : m * m * m ≤ 1728 := Nat.mul_le_mul (Nat.mul_le_mul hm hm) hm
theorem qq_N_le (f : Nat → Int32) (t : Nat) {m : Nat} (hm : m ≤ 12) : qq_N f t m ≤ 1728 :=
  Nat.le_trans (qq_su_le (fun _ => qq_Cle _ _ _ _ _ _) _) (qq_cube hm)
theorem qq_mmm (m : Nat) : nI m * nI m * nI m = nI (m * m * m) := by rw [pk_mul, pk_mul]
theorem qq_nY18 {post : Int32 → Prop} {f g : Nat → Int32} {m : Nat} (h0 : 0 < m) (hm : m ≤ 12) (h : post (nI (qq_N f 0 m))) : ∀ k l n, l + k = m * m * m → k < n → wY_nullCount_18 post (nI m) f g n (nI (qq_su (fun l => qq_C f 0 m (l % m) (l / m % m) (l / m / m)) l)) (nI l) := by
  have hM := qq_cube hm
  generalize eM : m * m * m = M at hM
  intro k
  induction k with
  | zero =>
    intro l n hl hn
    obtain ⟨n, rfl⟩ : ∃ q, n = q + 1 := ⟨n - 1, by omega⟩
    obtain rfl : l = M := by omega
    subst eM
    exact br_t (by rw [qq_mmm]; exact Int32.le_refl _) h
  | succ k ih =>
    intro l n hl hn
    obtain ⟨n, rfl⟩ : ∃ q, n = q + 1 := ⟨n - 1, by omega⟩
    have nx := ih (l + 1) n (by omega) (by omega)
    have e : qq_su (fun l => qq_C f 0 m (l % m) (l / m % m) (l / m / m)) (l + 1) = qq_su (fun l => qq_C f 0 m (l % m) (l / m % m) (l / m / m)) l + qq_C f 0 m (l % m) (l / m % m) (l / m / m) := rfl
    rw [e] at nx
    refine br_f (by rw [qq_mmm, eM]; exact nI_ge (by omega) (by omega)) (qq_isY (t := 0) (by omega) h0 (by omega) (by omega) (fun p => br_f (by decide) (nm_r (nI_1 _) (nm_r (nI_1 l) ?_))) fun p => br_t rfl (nm_r (nI_1 l) ?_))
    · rw [qq_C1 p] at nx
      exact nx
    · rw [qq_C0 p] at nx
      exact nx
theorem qq_mod (x : Int32) : ((∀ post : Int32 → Prop, post 0 → wpX_isModulus post x) ∧ ∀ A B : Prop, A → ((x < 1 → A) ∧ (¬ x < 1 → ((x ≤ 12 → B) ∧ (¬ x ≤ 12 → A))))) ∨ (∃ m, 0 < m ∧ m ≤ 12 ∧ x = nI m ∧ (∀ post : Int32 → Prop, post 1 → wpX_isModulus post x) ∧ ∀ A B : Prop, B → ((x < 1 → A) ∧ (¬ x < 1 → ((x ≤ 12 → B) ∧ (¬ x ≤ 12 → A))))) := by
  by_cases h1 : x < 1
  · exact Or.inl ⟨fun _ p => br_t h1 p, fun _ _ a => br_t h1 a⟩
  · by_cases h2 : x ≤ 12
    · refine Or.inr ?_
      rcases pk_ix x (n := 13) (by omega) with q | q | ⟨j, hj, rfl⟩
      · exact absurd (Int32.lt_trans q (by decide)) h1
      · exact absurd (Int32.le_trans q h2) (by decide)
      · have : j ≠ 0 := fun e => h1 (by rw [e]; decide)
        exact ⟨j, by omega, by omega, rfl, fun _ p => br_f h1 (br_f (Int32.not_lt.mpr h2) p), fun _ _ b => br_f h1 (br_t h2 b)⟩
    · exact Or.inl ⟨fun _ p => br_f h1 (br_t (Int32.not_le.mp h2) p), fun _ _ a => br_f h1 (br_f h2 a)⟩
theorem i_vc_nullCount {k : Nat} {u : SX} {v : SY} (I : i_Rel k u v) (hk : k + 4 ≤ 2048) (v1 : Int32) : wpX_nullCount (fun r => wpY_nullCount (fun r' => r' = r ∧ i_Rel (k + 4) u v) v v1) u v1 := by
  obtain ⟨f, g, h, rfl, rfl, H⟩ := I
  have R : i_Rel (k + 4) (f, g) (f, h) := ⟨f, g, h, rfl, rfl, H⟩
  unfold wpX_nullCount wpY_nullCount
  dsimp only
  rcases qq_mod v1 with ⟨hX, hY⟩ | ⟨m, h0, hm, rfl, hX, hY⟩
  · exact hX _ (br_t rfl (hY _ _ ⟨rfl, R⟩))
  · exact hX _ (br_f (by decide) (qq_cX (t := 0) h0 (by omega) (by omega) (hY _ _ ⟨m * m * m + 1, qq_nY18 h0 hm ⟨rfl, R⟩ (m * m * m) 0 _ (by omega) (by omega)⟩)))
noncomputable def qq_sb (f : Nat → Int32) (m : Nat) : Int32 := if qq_N f 1 m = 0 then 0 else 1
theorem qq_sbX {post : Int32 → Prop} {f g : Nat → Int32} {m : Nat} (h0 : 0 < m) (hm : m ≤ 12) (hX : ∀ post : Int32 → Prop, post 1 → wpX_isModulus post (nI m)) (h : post (qq_sb f m)) : wpX_solvableBy post (f, g) (nI m) := by
  unfold wpX_solvableBy
  dsimp only
  refine hX _ (br_f (by decide) (qq_cX (t := 1) h0 (by omega) (by omega) ?_))
  have l := qq_N_le f 1 hm
  unfold qq_sb at h
  by_cases z : qq_N f 1 m = 0
  · rw [if_pos z] at h
    exact br_t (by rw [z]; decide) h
  · rw [if_neg z] at h
    exact br_f (nI_nle (by omega) (by omega)) h
theorem qq_sbY16 {post : Int32 → Prop} {f g : Nat → Int32} {m : Nat} (h0 : 0 < m) (hm : m ≤ 12) (h : post (qq_sb f m)) : ∀ k l n, l + k = m * m * m → k < n → qq_su (fun l => qq_C f 1 m (l % m) (l / m % m) (l / m / m)) l = 0 → wY_solvableBy_16 post (nI m) f g n (nI l) := by
  have hM := qq_cube hm
  have hs : ∀ l, l ≤ m * m * m → qq_su (fun l => qq_C f 1 m (l % m) (l / m % m) (l / m / m)) l ≤ qq_N f 1 m := fun l hl => qq_su_mono _ hl
  have hN : qq_N f 1 m = qq_su (fun l => qq_C f 1 m (l % m) (l / m % m) (l / m / m)) (m * m * m) := rfl
  unfold qq_sb at h
  generalize eM : m * m * m = M at hM hs hN
  intro k
  induction k with
  | zero =>
    intro l n hl hn hz
    obtain ⟨n, rfl⟩ : ∃ q, n = q + 1 := ⟨n - 1, by omega⟩
    obtain rfl : l = M := by omega
    rw [if_pos (hN.trans hz)] at h
    exact br_t (by rw [qq_mmm, eM]; exact Int32.le_refl _) h
  | succ k ih =>
    intro l n hl hn hz
    obtain ⟨n, rfl⟩ : ∃ q, n = q + 1 := ⟨n - 1, by omega⟩
    have nx := ih (l + 1) n (by omega) (by omega)
    have ls := hs (l + 1) (by omega)
    have e : qq_su (fun l => qq_C f 1 m (l % m) (l / m % m) (l / m / m)) (l + 1) = qq_su (fun l => qq_C f 1 m (l % m) (l / m % m) (l / m / m)) l + qq_C f 1 m (l % m) (l / m % m) (l / m / m) := rfl
    rw [e, hz] at nx ls
    refine br_f (by rw [qq_mmm, eM]; exact nI_ge (by omega) (by omega)) (qq_isY (t := 1) (by omega) h0 (by omega) (by omega) (fun p => br_f (by decide) ?_) fun p => br_t rfl (nm_r (nI_1 l) ?_))
    · rw [qq_C1 p] at ls
      rw [if_neg (by omega)] at h
      exact h
    · rw [qq_C0 p] at nx
      exact nx rfl
theorem qq_sbY {post : Int32 → Prop} {f g : Nat → Int32} {m : Nat} (h0 : 0 < m) (hm : m ≤ 12) (hY : ∀ A B : Prop, B → ((nI m < 1 → A) ∧ (¬ nI m < 1 → ((nI m ≤ 12 → B) ∧ (¬ nI m ≤ 12 → A))))) (h : post (qq_sb f m)) : wpY_solvableBy post (f, g) (nI m) :=
  hY _ _ ⟨m * m * m + 1, qq_sbY16 h0 hm h (m * m * m) 0 _ (by omega) (by omega) rfl⟩
theorem i_vc_solvableBy {k : Nat} {u : SX} {v : SY} (I : i_Rel k u v) (hk : k + 4 ≤ 2048) (v1 : Int32) : wpX_solvableBy (fun r => wpY_solvableBy (fun r' => r' = r ∧ i_Rel (k + 4) u v) v v1) u v1 := by
  obtain ⟨f, g, h, rfl, rfl, H⟩ := I
  have R : i_Rel (k + 4) (f, g) (f, h) := ⟨f, g, h, rfl, rfl, H⟩
  rcases qq_mod v1 with ⟨hX, hY⟩ | ⟨m, h0, hm, rfl, hX, hY⟩
  · unfold wpX_solvableBy wpY_solvableBy
    dsimp only
    exact hX _ (br_t rfl (hY _ _ ⟨rfl, R⟩))
  · exact qq_sbX h0 hm hX (qq_sbY h0 hm hY ⟨rfl, R⟩)
theorem qq_modm {m : Nat} (h0 : 0 < m) (hm : m ≤ 12) : (∀ post : Int32 → Prop, post 1 → wpX_isModulus post (nI m)) ∧ ∀ A B : Prop, B → ((nI m < 1 → A) ∧ (¬ nI m < 1 → ((nI m ≤ 12 → B) ∧ (¬ nI m ≤ 12 → A)))) := by
  have h1 : ¬ nI m < 1 := nI_nlt (b := 1) h0 (by omega)
  have h2 : nI m ≤ 12 := nI_le (b := 12) hm (by omega)
  exact ⟨fun _ p => br_f h1 (br_f (Int32.not_lt.mpr h2) p), fun _ _ b => br_f h1 (br_t h2 b)⟩
theorem qq_ff (f g h : Nat → Int32) : ∀ k m, m + k = 13 → 0 < m → ∃ r : Int32, (∀ post : Int32 → Prop, post r → wX_firstFailure_2 post f g (k + 1) (nI m)) ∧ (∀ post : Int32 → Prop, post r → wY_firstFailure_2 post f h (k + 1) (nI m)) := by
  intro k
  induction k with
  | zero =>
    intro m hm h0
    have l : (12 : Int32) < nI m := nI_lt (a := 12) (by omega) (by omega)
    exact ⟨0, fun _ p => br_t l p, fun _ p => br_t l p⟩
  | succ k ih =>
    intro m hm h0
    have l : ¬ (12 : Int32) < nI m := nI_nlt (a := 12) (by omega) (by omega)
    obtain ⟨hX, hY⟩ := qq_modm h0 (m := m) (by omega)
    by_cases z : qq_sb f m = 0
    · exact ⟨nI m, fun _ p => br_f l (qq_sbX h0 (by omega) hX (br_t z p)), fun _ p => br_f l (qq_sbY h0 (by omega) hY (br_t z p))⟩
    · obtain ⟨r, rX, rY⟩ := ih (m + 1) (by omega) (by omega)
      exact ⟨r, fun _ p => br_f l (qq_sbX h0 (by omega) hX (br_f z (nm_r (nI_1 m) (rX _ p)))), fun _ p => br_f l (qq_sbY h0 (by omega) hY (br_f z (nm_r (nI_1 m) (rY _ p))))⟩
theorem i_vc_firstFailure {k : Nat} {u : SX} {v : SY} (I : i_Rel k u v) (hk : k + 4 ≤ 2048) : wpX_firstFailure (fun r => wpY_firstFailure (fun r' => r' = r ∧ i_Rel (k + 4) u v) v) u := by
  obtain ⟨f, g, h, rfl, rfl, H⟩ := I
  obtain ⟨r, rX, rY⟩ := qq_ff f g h 12 1 (by omega) (by omega)
  exact ⟨13, rX _ ⟨13, rY _ ⟨rfl, f, g, h, rfl, rfl, H⟩⟩⟩
