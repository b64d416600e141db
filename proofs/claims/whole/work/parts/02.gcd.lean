/-! bounds of sums and products; the common divisor; the minors -/
theorem qq_bm {x y : Int32} (a b : Nat) (hx : x.toInt.natAbs ≤ a) (hy : y.toInt.natAbs ≤ b) (h : a * b < 2 ^ 31) : (x * y).toInt.natAbs ≤ a * b := by
  have h1 : (x.toInt * y.toInt).natAbs ≤ a * b := by rw [Int.natAbs_mul]; exact Nat.mul_le_mul hx hy
  rw [Int32.toInt_mul, Int.bmod_eq_of_le (by omega) (by omega)]
  exact h1
theorem qq_bs {x y : Int32} (a b : Nat) (hx : x.toInt.natAbs ≤ a) (hy : y.toInt.natAbs ≤ b) (h : a + b < 2 ^ 31) : (x - y).toInt.natAbs ≤ a + b := by
  rw [Int32.toInt_sub, Int.bmod_eq_of_le (by omega) (by omega)]
  omega
theorem qq_ba {x y : Int32} (a b : Nat) (hx : x.toInt.natAbs ≤ a) (hy : y.toInt.natAbs ≤ b) (h : a + b < 2 ^ 31) : (x + y).toInt.natAbs ≤ a + b := by
  rw [Int32.toInt_add, Int.bmod_eq_of_le (by omega) (by omega)]
  omega
def qq_na (x : Int32) : Nat := x.toInt.natAbs
theorem qq_abs (b : Int32) (h : qq_na b ≤ 5000) : (0 ≤ b ∧ b = nI (qq_na b)) ∨ (¬ 0 ≤ b ∧ -b = nI (qq_na b) ∧ 0 - b = nI (qq_na b)) := by
  unfold qq_na at h ⊢
  have z : (0 : Int32).toInt = 0 := by decide
  by_cases hb : 0 ≤ b
  · have h2 := Int32.le_iff_toInt_le.mp hb
    rw [z] at h2
    refine Or.inl ⟨hb, Int32.toInt_inj.mp ?_⟩
    rw [nI_toInt (by omega)]
    omega
  · have h2 := Int32.lt_iff_toInt_lt.mp (Int32.not_le.mp hb)
    rw [z] at h2
    refine Or.inr ⟨hb, Int32.toInt_inj.mp ?_, Int32.toInt_inj.mp ?_⟩
    · rw [nI_toInt (by omega), Int32.toInt_neg, Int.bmod_eq_of_le (by omega) (by omega)]
      omega
    · rw [nI_toInt (by omega), Int32.toInt_sub, z, Int.bmod_eq_of_le (by omega) (by omega)]
      omega
theorem qq_gX25 {post : Int32 → Prop} : ∀ n b a s : Nat, b < n → a < 2 ^ 31 → b < 2 ^ 31 → s + b < 1000000 → post (nI (Nat.gcd a b)) → wX_commonDivisor_25 post n (nI a) (nI b) (nI s) := by
  intro n
  induction n with
  | zero => intro b a s h; omega
  | succ n ih =>
    intro b a s hn ha hb hs hp
    refine br_f (nI_ge (b := 1000000) (by omega) (by omega)) ?_
    by_cases hz : b = 0
    · subst hz
      rw [Nat.gcd_zero_right] at hp
      exact br_t rfl hp
    · have hne : ¬ nI b = 0 := nI_ne0 (by omega) hb
      have hr : a % b < b := Nat.mod_lt _ (by omega)
      refine br_f hne ⟨hne, nm_r (pk_rem ha (by omega) hb) (nm_r (nI_1 s) ?_)⟩
      refine ih (a % b) b (s + 1) (by omega) hb (by omega) (by omega) ?_
      rw [Nat.gcd_comm, ← Nat.gcd_rec, Nat.gcd_comm]
      exact hp
theorem qq_gX {post : Int32 → Prop} {g : Nat} {b : Int32} (hg : g ≤ 5000) (hb : qq_na b ≤ 5000) (hp : post (nI (Nat.gcd g (qq_na b)))) : wpX_commonDivisor post (nI g) b := by
  refine br_t (nI_pos' (by omega)) ?_
  rcases qq_abs b hb with ⟨h, e⟩ | ⟨h, e, _⟩
  · refine br_t h ⟨5001, ?_⟩
    rw [e]
    exact qq_gX25 5001 _ _ 0 (by omega) (by omega) (by omega) (by omega) hp
  · exact br_f h (nm_r e ⟨5001, qq_gX25 5001 _ _ 0 (by omega) (by omega) (by omega) (by omega) hp⟩)
theorem qq_gY25 {post : Int32 → Prop} {f h : Nat → Int32} : ∀ n p q : Nat, p < n → p < 2 ^ 31 → q < 2 ^ 31 → post (nI (Nat.gcd p q)) → wY_common_25 post f h n (nI p) (nI q) := by
  intro n
  induction n with
  | zero => intro p q h; omega
  | succ n ih =>
    intro p q hn hp hq hpost
    by_cases hz : p = 0
    · subst hz
      rw [Nat.gcd_zero_left] at hpost
      exact br_t rfl hpost
    · have hne : ¬ nI p = 0 := nI_ne0 (by omega) hp
      have hr : q % p < p := Nat.mod_lt _ (by omega)
      refine br_f hne ⟨hne, nm_r (pk_rem hq (by omega) hp) ?_⟩
      refine ih (q % p) p (by omega) (by omega) hp ?_
      rw [← Nat.gcd_rec]
      exact hpost
theorem qq_gY {post : Int32 → Prop} {f h : Nat → Int32} {g : Nat} {b : Int32} (hg : g ≤ 5000) (hb : qq_na b ≤ 5000) (hp : post (nI (Nat.gcd g (qq_na b)))) : wpY_common post (f, h) (nI g) b := by
  refine br_t (nI_pos' (by omega)) ?_
  rcases qq_abs b hb with ⟨k, e⟩ | ⟨k, _, e⟩
  · refine br_t k ⟨5001, ?_⟩
    rw [e]
    exact qq_gY25 5001 _ _ (by omega) (by omega) (by omega) hp
  · exact br_f k (nm_r e ⟨5001, qq_gY25 5001 _ _ (by omega) (by omega) (by omega) hp⟩)
theorem qq_gle {g n : Nat} (hg : g ≤ 5000) (hn : n ≤ 5000) : Nat.gcd g n ≤ 5000 := by
  by_cases hz : n = 0
  · subst hz; rw [Nat.gcd_zero_right]; exact hg
  · exact Nat.le_trans (Nat.le_of_dvd (by omega) (Nat.gcd_dvd_right g n)) hn
def qq_m2 (f : Nat → Int32) (r s c d : Nat) : Int32 := f (r * 4 + c) * f (s * 4 + d) - f (r * 4 + d) * f (s * 4 + c)
def qq_m3 (f : Nat → Int32) (c d e : Nat) : Int32 := f c * qq_m2 f 1 2 d e - f d * qq_m2 f 1 2 c e + f e * qq_m2 f 1 2 c d
theorem qq_m2_le {f : Nat → Int32} (H : qq_ok f) (r s c d : Nat) : (qq_m2 f r s c d).toInt.natAbs ≤ 162 :=
  qq_bs 81 81 (qq_bm 9 9 (H _) (H _) (by omega)) (qq_bm 9 9 (H _) (H _) (by omega)) (by omega)
theorem qq_m3_le {f : Nat → Int32} (H : qq_ok f) (c d e : Nat) : (qq_m3 f c d e).toInt.natAbs ≤ 4374 :=
  qq_ba 2916 1458 (qq_bs 1458 1458 (qq_bm 9 162 (H _) (qq_m2_le H _ _ _ _) (by omega)) (qq_bm 9 162 (H _) (qq_m2_le H _ _ _ _) (by omega)) (by omega)) (qq_bm 9 162 (H _) (qq_m2_le H _ _ _ _) (by omega)) (by omega)
theorem qq_n1 {f : Nat → Int32} (H : qq_ok f) (i : Nat) : qq_na (f i) ≤ 5000 := Nat.le_trans (H i) (by omega)
theorem qq_n2 {f : Nat → Int32} (H : qq_ok f) (r s c d : Nat) : qq_na (qq_m2 f r s c d) ≤ 5000 := Nat.le_trans (qq_m2_le H r s c d) (by omega)
theorem qq_n3 {f : Nat → Int32} (H : qq_ok f) (c d e : Nat) : qq_na (qq_m3 f c d e) ≤ 5000 := Nat.le_trans (qq_m3_le H c d e) (by omega)
theorem qq_X2 {post : Int32 → Prop} {f g : Nat → Int32} {r s c d : Nat} (hr : r < 3) (hs : s < 3) (hc : c < 4) (hd : d < 4) (h : post (qq_m2 f r s c d)) : wpX_minorOfTwo post (f, g) (nI r) (nI s) (nI c) (nI d) := by
  unfold wpX_minorOfTwo
  dsimp only
  rw [qq_ix, qq_ix, qq_ix, qq_ix, nI_clamp (by omega), nI_clamp (by omega), nI_clamp (by omega), nI_clamp (by omega)]
  exact ⟨vp_in_nI (by omega) (by omega), vp_in_nI (by omega) (by omega), vp_in_nI (by omega) (by omega), vp_in_nI (by omega) (by omega), h⟩
theorem qq_Y2 {post : Int32 → Prop} {f g : Nat → Int32} {r s c d : Nat} (hr : r < 3) (hs : s < 3) (hc : c < 4) (hd : d < 4) (h : post (qq_m2 f r s c d)) : wpY_two post (f, g) (nI r) (nI s) (nI c) (nI d) := by
  unfold wpY_two
  dsimp only
  rw [qq_iy, qq_iy, qq_iy, qq_iy, nI_clamp (by omega), nI_clamp (by omega), nI_clamp (by omega), nI_clamp (by omega)]
  exact ⟨vp_in_nI (by omega) (by omega), vp_in_nI (by omega) (by omega), vp_in_nI (by omega) (by omega), vp_in_nI (by omega) (by omega), h⟩
theorem qq_i4 (c : Nat) : 4 + nI c = nI (1 * 4 + c) := nI_add 4 c
theorem qq_i8 (c : Nat) : 8 + nI c = nI (2 * 4 + c) := nI_add 8 c
theorem qq_X3 {post : Int32 → Prop} {f g : Nat → Int32} {c d e : Nat} (hc : c < 4) (hd : d < 4) (he : e < 4) (h : post (qq_m3 f c d e)) : wpX_minorOfThree post (f, g) (nI c) (nI d) (nI e) := by
  have v : ∀ i, i < 12 → vp_in (nI i) 12 := fun i hi => vp_in_nI hi (by omega)
  unfold wpX_minorOfThree
  dsimp only
  rw [qq_i4, qq_i4, qq_i4, qq_i8, qq_i8, qq_i8, nI_clamp (n := c) (by omega), nI_clamp (n := d) (by omega), nI_clamp (n := e) (by omega), nI_clamp (n := 1 * 4 + c) (by omega), nI_clamp (n := 1 * 4 + d) (by omega), nI_clamp (n := 1 * 4 + e) (by omega), nI_clamp (n := 2 * 4 + c) (by omega), nI_clamp (n := 2 * 4 + d) (by omega), nI_clamp (n := 2 * 4 + e) (by omega)]
  exact ⟨v _ (by omega), v _ (by omega), v _ (by omega), v _ (by omega), nm_e ⟨v _ (by omega), v _ (by omega), v _ (by omega), v _ (by omega), nm_e ⟨v _ (by omega), v _ (by omega), v _ (by omega), v _ (by omega), nm_e ⟨v _ (by omega), v _ (by omega), v _ (by omega), h⟩⟩⟩⟩
theorem qq_Y3 {post : Int32 → Prop} {f g : Nat → Int32} {c d e : Nat} (hc : c < 4) (hd : d < 4) (he : e < 4) (h : post (qq_m3 f c d e)) : wpY_three post (f, g) (nI c) (nI d) (nI e) := by
  unfold wpY_three
  dsimp only
  rw [nI_clamp (n := c) (by omega), nI_clamp (n := d) (by omega), nI_clamp (n := e) (by omega)]
  exact ⟨vp_in_nI (by omega) (by omega), qq_Y2 (r := 1) (s := 2) (by omega) (by omega) hd he ⟨vp_in_nI (by omega) (by omega), qq_Y2 (r := 1) (s := 2) (by omega) (by omega) hc he ⟨vp_in_nI (by omega) (by omega), qq_Y2 (r := 1) (s := 2) (by omega) (by omega) hc hd h⟩⟩⟩
theorem i_vc_determinant {k : Nat} {u : SX} {v : SY} (I : i_Rel k u v) (hk : k + 4 ≤ 2048) : wpX_determinant (fun r => wpY_determinant (fun r' => r' = r ∧ i_Rel (k + 4) u v) v) u := by
  obtain ⟨f, g, h, rfl, rfl, H⟩ := I
  unfold wpX_determinant wpY_determinant
  dsimp only
  exact qq_X3 (c := 0) (d := 1) (e := 2) (by omega) (by omega) (by omega) (qq_Y3 (c := 0) (d := 1) (e := 2) (by omega) (by omega) (by omega) ⟨rfl, f, g, h, rfl, rfl, H⟩)
