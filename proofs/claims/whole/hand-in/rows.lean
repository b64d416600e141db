section
theorem pk_us {f : Nat → Int32} {k : Nat} {x : Int32} : upd f k x k = x := if_pos rfl
theorem pk_un {f : Nat → Int32} {k j : Nat} {x : Int32} (h : j ≠ k) : upd f k x j = f j := if_neg h
theorem pk_sub {a b : Nat} (h : b ≤ a) : nI a - nI b = nI (a - b) := by
  obtain ⟨c, rfl⟩ : ∃ c, a = c + b := ⟨a - b, by omega⟩
  rw [← nI_add, Int32.add_sub_cancel, Nat.add_sub_cancel]
theorem pk_m1 (n : Nat) : nI (n + 1) + (-1) = nI n := by
  rw [← nI_1, Int32.add_assoc, show (1 : Int32) + (-1) = 0 from rfl, Int32.add_zero]
theorem pk_mul (a b : Nat) : nI a * nI b = nI (a * b) := (Int32.ofNat_mul a b).symm
theorem pk_div {a d : Nat} (ha : a < 2 ^ 31) (h0 : 0 < d) (hd : d < 2 ^ 31) : nI a / nI d = nI (a / d) := by
  apply Int32.toInt_inj.mp
  rw [lg_idiv_nonneg (by rw [nI_toInt ha]; omega) (by rw [nI_toInt hd]; omega), nI_toInt ha, nI_toInt hd, nI_toInt (Nat.lt_of_le_of_lt (Nat.div_le_self a d) ha)]
  first | rfl | exact (Int.natCast_ediv _ _).symm
theorem pk_rem {a d : Nat} (ha : a < 2 ^ 31) (h0 : 0 < d) (hd : d < 2 ^ 31) : nI a - nI a / nI d * nI d = nI (a % d) := by
  rw [pk_div ha h0 hd, pk_mul, pk_sub (Nat.div_mul_le_self a d)]
  exact congrArg nI (by have := Nat.div_add_mod' a d; omega)
theorem pk_ix (x : Int32) {n : Nat} (hn : n < 2 ^ 31) : x < 0 ∨ nI n ≤ x ∨ ∃ j : Nat, j < n ∧ x = nI j := by
  by_cases h : x < 0
  · exact Or.inl h
  · obtain ⟨j, hj, rfl⟩ := nI_of h
    by_cases h2 : j < n
    · exact Or.inr (Or.inr ⟨j, h2, rfl⟩)
    · exact Or.inr (Or.inl (nI_le (by omega) hj))
theorem pk_le {x y : Int32} {A B : Prop} (a b : Nat) (f : a ≤ b → A) (g : b < a → B) (hx : x = nI a := by rfl) (hy : y = nI b := by rfl) (ha : a < 2 ^ 31 := by omega) (hb : b < 2 ^ 31 := by omega) : (x ≤ y → A) ∧ (¬ x ≤ y → B) := by
  subst hx hy
  rw [nI_leI ha hb]
  exact ⟨f, fun z => g (by omega)⟩
theorem pk_lt {x y : Int32} {A B : Prop} (a b : Nat) (f : a < b → A) (g : b ≤ a → B) (hx : x = nI a := by rfl) (hy : y = nI b := by rfl) (ha : a < 2 ^ 31 := by omega) (hb : b < 2 ^ 31 := by omega) : (x < y → A) ∧ (¬ x < y → B) := by
  subst hx hy
  rw [nI_ltI ha hb]
  exact ⟨f, fun z => g (by omega)⟩
theorem pk_eq {x y : Int32} {A B : Prop} (a b : Nat) (f : a = b → A) (g : a ≠ b → B) (hx : x = nI a := by rfl) (hy : y = nI b := by rfl) (ha : a < 2 ^ 31 := by omega) (hb : b < 2 ^ 31 := by omega) : (x = y → A) ∧ (¬ x = y → B) := by
  subst hx hy
  rw [nI_eq ha hb]
  exact ⟨f, g⟩
theorem pk_in {x : Int32} (n N : Nat) (h : n < N) (hx : x = nI n := by rfl) (hN : N < 2 ^ 31 := by omega) : vp_in x N := by
  subst hx
  exact vp_in_nI h hN
theorem pk_cl {x : Int32} (n : Nat) (hx : x = nI n := by rfl) (h : n < 2 ^ 31 := by omega) : x.toNatClampNeg = n := by
  subst hx
  exact nI_clamp h
def qq_ok (f : Nat → Int32) : Prop := ∀ j, (f j).toInt.natAbs ≤ 9
/-- both keep the same twelve numbers, each from -9 to 9; the boolean tables are free -/
def i_Rel (_ : Nat) (u : SX) (v : SY) : Prop := ∃ f g h, u = (f, g) ∧ v = (f, h) ∧ qq_ok f
theorem i_up {k : Nat} {u : SX} {v : SY} (h : i_Rel k u v) : i_Rel (k + 4) u v := h
theorem i_vc0 : wpX_init (fun u => wpY_init (fun v => i_Rel 0 u v)) := ⟨_, _, _, rfl, rfl, fun _ => (by decide : (0 : Int32).toInt.natAbs ≤ 9)⟩
theorem qq_ix (r c : Nat) : nI r * 4 + nI c = nI (r * 4 + c) := by
  rw [show (4 : Int32) = nI 4 from rfl, pk_mul, nI_add]
theorem qq_iy (r c : Nat) : 4 * nI r + nI c = nI (r * 4 + c) := by
  rw [show (4 : Int32) = nI 4 from rfl, pk_mul, nI_add, Nat.mul_comm]
theorem qq_ok_upd {f : Nat → Int32} (H : qq_ok f) (k : Nat) {x : Int32} (hx : x.toInt.natAbs ≤ 9) : qq_ok (upd f k x) := by
  intro j
  by_cases e : j = k
  · subst e; rw [pk_us]; exact hx
  · rw [pk_un e]; exact H j
theorem qq_place (x : Int32) : ((∀ post : Int32 → Prop, post 0 → wpX_isPlace post x) ∧ (∀ (post : Int32 → Prop) (v : SY), post 0 → wpY_isPlace post v x)) ∨ (∃ j, j < 3 ∧ x = nI j ∧ (∀ post : Int32 → Prop, post 1 → wpX_isPlace post x) ∧ (∀ (post : Int32 → Prop) (v : SY), post 1 → wpY_isPlace post v x)) := by
  rcases pk_ix x (n := 3) (by omega) with h | h | ⟨j, hj, rfl⟩
  · exact Or.inl ⟨fun _ p => br_t h p, fun _ _ p => br_t h p⟩
  · have h0 : ¬ x < 0 := fun z => absurd (Int32.lt_of_le_of_lt h z) (by decide)
    exact Or.inl ⟨fun _ p => br_f h0 (br_t h p), fun _ _ p => br_f h0 (br_t h p)⟩
  · have h0 : ¬ nI j < 0 := nI_pos (by omega)
    have h3 : ¬ nI 3 ≤ nI j := nI_ge hj (by omega)
    exact Or.inr ⟨j, hj, rfl, fun _ p => br_f h0 (br_f h3 p), fun _ _ p => br_f h0 (br_f h3 p)⟩
theorem qq_val {x : Int32} (h1 : ¬ x < -9) (h2 : ¬ 9 < x) : x.toInt.natAbs ≤ 9 := by
  have a := Int32.le_iff_toInt_le.mp (Int32.not_lt.mp h1)
  have b := Int32.le_iff_toInt_le.mp (Int32.not_lt.mp h2)
  rw [show (-9 : Int32).toInt = -9 from by decide] at a
  rw [show (9 : Int32).toInt = 9 from by decide] at b
  omega
theorem i_vc_set {k : Nat} {u : SX} {v : SY} (I : i_Rel k u v) (hk : k + 4 ≤ 2048) (v1 : Int32) (v2 : Int32) (v3 : Int32) : wpX_set (fun r u' => wpY_set (fun r' v' => r' = r ∧ i_Rel (k + 4) u' v') v v1 v2 v3) u v1 v2 v3 := by
  obtain ⟨f, g, h, rfl, rfl, H⟩ := I
  unfold wpX_set wpY_set
  dsimp only
  rcases qq_place v1 with ⟨hX, hY⟩ | ⟨r, hr, rfl, hX, hY⟩
  · exact hX _ (br_t rfl (hY _ _ (br_t rfl ⟨rfl, f, g, h, rfl, rfl, H⟩)))
  refine hX _ (br_f (by decide) ?_)
  rcases qq_place v2 with ⟨kX, kY⟩ | ⟨c, hc, rfl, kX, kY⟩
  · exact kX _ (br_t rfl (hY _ _ (br_f (by decide) (kY _ _ (br_t rfl ⟨rfl, f, g, h, rfl, rfl, H⟩)))))
  refine kX _ (br_f (by decide) ?_)
  by_cases h1 : v3 < -9
  · exact br_t h1 (br_t rfl (hY _ _ (br_f (by decide) (kY _ _ (br_f (by decide) (br_t h1 ⟨rfl, f, g, h, rfl, rfl, H⟩))))))
  · by_cases h2 : 9 < v3
    · exact br_f h1 (br_t h2 (br_t rfl (hY _ _ (br_f (by decide) (kY _ _ (br_f (by decide) (br_f h1 (br_f (Int32.not_le.mpr h2) ⟨rfl, f, g, h, rfl, rfl, H⟩))))))))
    · refine br_f h1 (br_f h2 (br_f (by decide) ⟨by rw [qq_ix]; exact vp_in_nI (by omega) (by omega), fun a ea => ?_⟩))
      refine hY _ _ (br_f (by decide) (kY _ _ (br_f (by decide) (br_f h1 (br_t (Int32.not_lt.mp h2) ⟨by rw [qq_iy]; exact vp_in_nI (by omega) (by omega), fun b eb => ⟨rfl, ?_⟩⟩)))))
      rw [qq_ix, nI_clamp (by omega)] at ea
      rw [qq_iy, nI_clamp (by omega)] at eb
      subst ea eb
      exact ⟨_, _, _, rfl, rfl, qq_ok_upd H _ (qq_val h1 h2)⟩
theorem i_vc_setRight {k : Nat} {u : SX} {v : SY} (I : i_Rel k u v) (hk : k + 4 ≤ 2048) (v1 : Int32) (v2 : Int32) : wpX_setRight (fun r u' => wpY_setRight (fun r' v' => r' = r ∧ i_Rel (k + 4) u' v') v v1 v2) u v1 v2 := by
  obtain ⟨f, g, h, rfl, rfl, H⟩ := I
  unfold wpX_setRight wpY_setRight
  dsimp only
  rcases qq_place v1 with ⟨hX, hY⟩ | ⟨r, hr, rfl, hX, hY⟩
  · exact hX _ (br_t rfl (hY _ _ (br_t rfl ⟨rfl, f, g, h, rfl, rfl, H⟩)))
  refine hX _ (br_f (by decide) ?_)
  by_cases h1 : v2 < -9
  · exact br_t h1 (br_t rfl (hY _ _ (br_f (by decide) (br_t h1 ⟨rfl, f, g, h, rfl, rfl, H⟩))))
  · by_cases h2 : 9 < v2
    · exact br_f h1 (br_t h2 (br_t rfl (hY _ _ (br_f (by decide) (br_f h1 (br_f (Int32.not_le.mpr h2) ⟨rfl, f, g, h, rfl, rfl, H⟩))))))
    · have e1 : nI r * 4 + 3 = nI (r * 4 + 3) := qq_ix r 3
      have e2 : 4 * nI r + 3 = nI (r * 4 + 3) := qq_iy r 3
      refine br_f h1 (br_f h2 (br_f (by decide) ⟨by rw [e1]; exact vp_in_nI (by omega) (by omega), fun a ea => ?_⟩))
      refine hY _ _ (br_f (by decide) (br_f h1 (br_t (Int32.not_lt.mp h2) ⟨by rw [e2]; exact vp_in_nI (by omega) (by omega), fun b eb => ⟨rfl, ?_⟩⟩)))
      rw [e1, nI_clamp (by omega)] at ea
      rw [e2, nI_clamp (by omega)] at eb
      subst ea eb
      exact ⟨_, _, _, rfl, rfl, qq_ok_upd H _ (qq_val h1 h2)⟩
/-! turn -/
def qq_sw (f : Nat → Int32) (i j : Nat) : Nat → Int32 := upd (upd f i (f j)) j (f i)
theorem qq_sw_comm (f : Nat → Int32) (i j : Nat) : qq_sw f i j = qq_sw f j i := by
  funext k
  unfold qq_sw upd
  by_cases a : k = i <;> by_cases b : k = j <;> simp_all
theorem qq_sw_ok {f : Nat → Int32} (H : qq_ok f) (i j : Nat) : qq_ok (qq_sw f i j) := qq_ok_upd (qq_ok_upd H _ (H j)) _ (H i)
theorem qq_t9s {post : SX → Prop} {J2 : Int32 → (Nat → Int32) → (Nat → Int32) → Prop} {n r c : Nat} {f g : Nat → Int32} (hc : c < r) (hr : r < 3) (h : wX_turn_9 post J2 (nI r) n (nI (c + 1)) (qq_sw f (r * 4 + c) (c * 4 + r)) g) : wX_turn_9 post J2 (nI r) (n + 1) (nI c) f g := by
  refine br_f (nI_ge hc (by omega)) ?_
  rw [qq_ix, qq_ix, nI_clamp (by omega), nI_clamp (by omega), nI_1]
  refine ⟨vp_in_nI (by omega) (by omega), fun x ex => ⟨vp_in_nI (by omega) (by omega), vp_in_nI (by omega) (by omega), fun a ea => ⟨vp_in_nI (by omega) (by omega), fun b eb => nm_e ?_⟩⟩⟩
  subst ex ea eb
  exact h
theorem qq_t9e {post : SX → Prop} {J2 : Int32 → (Nat → Int32) → (Nat → Int32) → Prop} {n r : Nat} {f g : Nat → Int32} (h : J2 (nI (r + 1)) f g) : wX_turn_9 post J2 (nI r) (n + 1) (nI r) f g :=
  br_t (Int32.le_refl _) (nm_r (nI_1 r) h)
theorem qq_t2s {post : SX → Prop} {n r : Nat} {f g : Nat → Int32} (hr : r < 3) (m : Nat) (h : wX_turn_9 post (wX_turn_2 post n) (nI r) m (nI 0) f g) : wX_turn_2 post (n + 1) (nI r) f g :=
  br_f (nI_ge (b := 3) hr (by omega)) ⟨m, h⟩
theorem qq_turnX {post : SX → Prop} {f g : Nat → Int32} (h : post (qq_sw (qq_sw (qq_sw f 4 1) 8 2) 9 6, g)) : wpX_turn post (f, g) := by
  refine ⟨4, qq_t2s (r := 0) (by omega) 1 (qq_t9e (qq_t2s (r := 1) (by omega) 2 (qq_t9s (by omega) (by omega) (qq_t9e (qq_t2s (r := 2) (by omega) 3 (qq_t9s (by omega) (by omega) (qq_t9s (by omega) (by omega) (qq_t9e ?_))))))))⟩
  exact br_t (nI_le (a := 3) (b := 3) (by omega) (by omega)) h
theorem qq_exY {post : SY → Prop} {f g : Nat → Int32} (i j : Nat) (hi : i < 12) (hj : j < 12) (h : post (qq_sw f i j, g)) : wpY_exchange post (f, g) (nI i) (nI j) := by
  unfold wpY_exchange
  dsimp only
  rw [nI_clamp (by omega), nI_clamp (by omega)]
  refine ⟨vp_in_nI hi (by omega), fun x ex => ⟨vp_in_nI hj (by omega), vp_in_nI hi (by omega), fun a ea => ⟨vp_in_nI hj (by omega), fun b eb => ?_⟩⟩⟩
  subst ex ea eb
  exact h
theorem i_vc_turn {k : Nat} {u : SX} {v : SY} (I : i_Rel k u v) (hk : k + 4 ≤ 2048) : wpX_turn (fun u' => wpY_turn (fun v' => i_Rel (k + 4) u' v') v) u := by
  obtain ⟨f, g, h, rfl, rfl, H⟩ := I
  refine qq_turnX ?_
  unfold wpY_turn
  dsimp only
  refine qq_exY 1 4 (by omega) (by omega) ?_
  dsimp only
  refine qq_exY 2 8 (by omega) (by omega) ?_
  dsimp only
  refine qq_exY 6 9 (by omega) (by omega) ?_
  dsimp only
  refine ⟨_, g, h, rfl, ?_, qq_sw_ok (qq_sw_ok (qq_sw_ok H _ _) _ _) _ _⟩
  rw [qq_sw_comm f 4 1, qq_sw_comm _ 8 2, qq_sw_comm _ 9 6]
end
section
/-! bounds of sums and products; the common divisor; the minors -/
theorem qq_bm {x y : Int32} (a b : Nat) (hx : x.toInt.natAbs ≤ a) (hy : y.toInt.natAbs ≤ b) (h : a * b < 2 ^ 31) : (x * y).toInt.natAbs ≤ a * b := by
  have h1 : (x.toInt * y.toInt).natAbs ≤ a * b := by rw [Int.natAbs_mul]; exact Nat.mul_le_mul hx hy
  rw [Int32.toInt_mul, Int.bmod_eq_of_le (by omega) (by omega)]
  exact h1
theorem qq_bs {x y : Int32} (a b : Nat) (hx : x.toInt.natAbs ≤ a) (hy : y.toInt.natAbs ≤ b) (h : a + b < 2 ^ 31) : (x - y).toInt.natAbs ≤ a + b := by
  rw [Int32.toInt_sub, Int.bmod_eq_of_le (by omega) (by omega)]
  omega
theorem qq_ba {x y : Int32} (a b : Nat) (hx : x.toInt.natAbs ≤ a) (hy : y.toInt.natAbs ≤ b) (h : a + b < 2 ^ 31) : (x + y).toInt.natAbs ≤ a + b := by
  rw [Int32.toInt_add, Int.bmod_eq_of_le (by omega) (by omega)]
  omega
def qq_na (x : Int32) : Nat := x.toInt.natAbs
theorem qq_abs (b : Int32) (h : qq_na b ≤ 5000) : (0 ≤ b ∧ b = nI (qq_na b)) ∨ (¬ 0 ≤ b ∧ -b = nI (qq_na b) ∧ 0 - b = nI (qq_na b)) := by
  unfold qq_na at h ⊢
  have z : (0 : Int32).toInt = 0 := by decide
  by_cases hb : 0 ≤ b
  · have h2 := Int32.le_iff_toInt_le.mp hb
    rw [z] at h2
    refine Or.inl ⟨hb, Int32.toInt_inj.mp ?_⟩
    rw [nI_toInt (by omega)]
    omega
  · have h2 := Int32.lt_iff_toInt_lt.mp (Int32.not_le.mp hb)
    rw [z] at h2
    refine Or.inr ⟨hb, Int32.toInt_inj.mp ?_, Int32.toInt_inj.mp ?_⟩
    · rw [nI_toInt (by omega), Int32.toInt_neg, Int.bmod_eq_of_le (by omega) (by omega)]
      omega
    · rw [nI_toInt (by omega), Int32.toInt_sub, z, Int.bmod_eq_of_le (by omega) (by omega)]
      omega
theorem qq_gX25 {post : Int32 → Prop} : ∀ n b a s : Nat, b < n → a < 2 ^ 31 → b < 2 ^ 31 → s + b < 1000000 → post (nI (Nat.gcd a b)) → wX_commonDivisor_25 post n (nI a) (nI b) (nI s) := by
  intro n
  induction n with
  | zero => intro b a s h; omega
  | succ n ih =>
    intro b a s hn ha hb hs hp
    refine br_f (nI_ge (b := 1000000) (by omega) (by omega)) ?_
    by_cases hz : b = 0
    · subst hz
      rw [Nat.gcd_zero_right] at hp
      exact br_t rfl hp
    · have hne : ¬ nI b = 0 := nI_ne0 (by omega) hb
      have hr : a % b < b := Nat.mod_lt _ (by omega)
      refine br_f hne ⟨hne, nm_r (pk_rem ha (by omega) hb) (nm_r (nI_1 s) ?_)⟩
      refine ih (a % b) b (s + 1) (by omega) hb (by omega) (by omega) ?_
      rw [Nat.gcd_comm, ← Nat.gcd_rec, Nat.gcd_comm]
      exact hp
theorem qq_gX {post : Int32 → Prop} {g : Nat} {b : Int32} (hg : g ≤ 5000) (hb : qq_na b ≤ 5000) (hp : post (nI (Nat.gcd g (qq_na b)))) : wpX_commonDivisor post (nI g) b := by
  refine br_t (nI_pos' (by omega)) ?_
  rcases qq_abs b hb with ⟨h, e⟩ | ⟨h, e, _⟩
  · refine br_t h ⟨5001, ?_⟩
    rw [e]
    exact qq_gX25 5001 _ _ 0 (by omega) (by omega) (by omega) (by omega) hp
  · exact br_f h (nm_r e ⟨5001, qq_gX25 5001 _ _ 0 (by omega) (by omega) (by omega) (by omega) hp⟩)
theorem qq_gY25 {post : Int32 → Prop} {f h : Nat → Int32} : ∀ n p q : Nat, p < n → p < 2 ^ 31 → q < 2 ^ 31 → post (nI (Nat.gcd p q)) → wY_common_25 post f h n (nI p) (nI q) := by
  intro n
  induction n with
  | zero => intro p q h; omega
  | succ n ih =>
    intro p q hn hp hq hpost
    by_cases hz : p = 0
    · subst hz
      rw [Nat.gcd_zero_left] at hpost
      exact br_t rfl hpost
    · have hne : ¬ nI p = 0 := nI_ne0 (by omega) hp
      have hr : q % p < p := Nat.mod_lt _ (by omega)
      refine br_f hne ⟨hne, nm_r (pk_rem hq (by omega) hp) ?_⟩
      refine ih (q % p) p (by omega) (by omega) hp ?_
      rw [← Nat.gcd_rec]
      exact hpost
theorem qq_gY {post : Int32 → Prop} {f h : Nat → Int32} {g : Nat} {b : Int32} (hg : g ≤ 5000) (hb : qq_na b ≤ 5000) (hp : post (nI (Nat.gcd g (qq_na b)))) : wpY_common post (f, h) (nI g) b := by
  refine br_t (nI_pos' (by omega)) ?_
  rcases qq_abs b hb with ⟨k, e⟩ | ⟨k, _, e⟩
  · refine br_t k ⟨5001, ?_⟩
    rw [e]
    exact qq_gY25 5001 _ _ (by omega) (by omega) (by omega) hp
  · exact br_f k (nm_r e ⟨5001, qq_gY25 5001 _ _ (by omega) (by omega) (by omega) hp⟩)
theorem qq_gle {g n : Nat} (hg : g ≤ 5000) (hn : n ≤ 5000) : Nat.gcd g n ≤ 5000 := by
  by_cases hz : n = 0
  · subst hz; rw [Nat.gcd_zero_right]; exact hg
  · exact Nat.le_trans (Nat.le_of_dvd (by omega) (Nat.gcd_dvd_right g n)) hn
def qq_m2 (f : Nat → Int32) (r s c d : Nat) : Int32 := f (r * 4 + c) * f (s * 4 + d) - f (r * 4 + d) * f (s * 4 + c)
def qq_m3 (f : Nat → Int32) (c d e : Nat) : Int32 := f c * qq_m2 f 1 2 d e - f d * qq_m2 f 1 2 c e + f e * qq_m2 f 1 2 c d
theorem qq_m2_le {f : Nat → Int32} (H : qq_ok f) (r s c d : Nat) : (qq_m2 f r s c d).toInt.natAbs ≤ 162 :=
  qq_bs 81 81 (qq_bm 9 9 (H _) (H _) (by omega)) (qq_bm 9 9 (H _) (H _) (by omega)) (by omega)
theorem qq_m3_le {f : Nat → Int32} (H : qq_ok f) (c d e : Nat) : (qq_m3 f c d e).toInt.natAbs ≤ 4374 :=
  qq_ba 2916 1458 (qq_bs 1458 1458 (qq_bm 9 162 (H _) (qq_m2_le H _ _ _ _) (by omega)) (qq_bm 9 162 (H _) (qq_m2_le H _ _ _ _) (by omega)) (by omega)) (qq_bm 9 162 (H _) (qq_m2_le H _ _ _ _) (by omega)) (by omega)
theorem qq_n1 {f : Nat → Int32} (H : qq_ok f) (i : Nat) : qq_na (f i) ≤ 5000 := Nat.le_trans (H i) (by omega)
theorem qq_n2 {f : Nat → Int32} (H : qq_ok f) (r s c d : Nat) : qq_na (qq_m2 f r s c d) ≤ 5000 := Nat.le_trans (qq_m2_le H r s c d) (by omega)
theorem qq_n3 {f : Nat → Int32} (H : qq_ok f) (c d e : Nat) : qq_na (qq_m3 f c d e) ≤ 5000 := Nat.le_trans (qq_m3_le H c d e) (by omega)
theorem qq_X2 {post : Int32 → Prop} {f g : Nat → Int32} {r s c d : Nat} (hr : r < 3) (hs : s < 3) (hc : c < 4) (hd : d < 4) (h : post (qq_m2 f r s c d)) : wpX_minorOfTwo post (f, g) (nI r) (nI s) (nI c) (nI d) := by
  unfold wpX_minorOfTwo
  dsimp only
  rw [qq_ix, qq_ix, qq_ix, qq_ix, nI_clamp (by omega), nI_clamp (by omega), nI_clamp (by omega), nI_clamp (by omega)]
  exact ⟨vp_in_nI (by omega) (by omega), vp_in_nI (by omega) (by omega), vp_in_nI (by omega) (by omega), vp_in_nI (by omega) (by omega), h⟩
theorem qq_Y2 {post : Int32 → Prop} {f g : Nat → Int32} {r s c d : Nat} (hr : r < 3) (hs : s < 3) (hc : c < 4) (hd : d < 4) (h : post (qq_m2 f r s c d)) : wpY_two post (f, g) (nI r) (nI s) (nI c) (nI d) := by
  unfold wpY_two
  dsimp only
  rw [qq_iy, qq_iy, qq_iy, qq_iy, nI_clamp (by omega), nI_clamp (by omega), nI_clamp (by omega), nI_clamp (by omega)]
  exact ⟨vp_in_nI (by omega) (by omega), vp_in_nI (by omega) (by omega), vp_in_nI (by omega) (by omega), vp_in_nI (by omega) (by omega), h⟩
theorem qq_i4 (c : Nat) : 4 + nI c = nI (1 * 4 + c) := nI_add 4 c
theorem qq_i8 (c : Nat) : 8 + nI c = nI (2 * 4 + c) := nI_add 8 c
theorem qq_X3 {post : Int32 → Prop} {f g : Nat → Int32} {c d e : Nat} (hc : c < 4) (hd : d < 4) (he : e < 4) (h : post (qq_m3 f c d e)) : wpX_minorOfThree post (f, g) (nI c) (nI d) (nI e) := by
  have v : ∀ i, i < 12 → vp_in (nI i) 12 := fun i hi => vp_in_nI hi (by omega)
  unfold wpX_minorOfThree
  dsimp only
  rw [qq_i4, qq_i4, qq_i4, qq_i8, qq_i8, qq_i8, nI_clamp (n := c) (by omega), nI_clamp (n := d) (by omega), nI_clamp (n := e) (by omega), nI_clamp (n := 1 * 4 + c) (by omega), nI_clamp (n := 1 * 4 + d) (by omega), nI_clamp (n := 1 * 4 + e) (by omega), nI_clamp (n := 2 * 4 + c) (by omega), nI_clamp (n := 2 * 4 + d) (by omega), nI_clamp (n := 2 * 4 + e) (by omega)]
  exact ⟨v _ (by omega), v _ (by omega), v _ (by omega), v _ (by omega), nm_e ⟨v _ (by omega), v _ (by omega), v _ (by omega), v _ (by omega), nm_e ⟨v _ (by omega), v _ (by omega), v _ (by omega), v _ (by omega), nm_e ⟨v _ (by omega), v _ (by omega), v _ (by omega), h⟩⟩⟩⟩
theorem qq_Y3 {post : Int32 → Prop} {f g : Nat → Int32} {c d e : Nat} (hc : c < 4) (hd : d < 4) (he : e < 4) (h : post (qq_m3 f c d e)) : wpY_three post (f, g) (nI c) (nI d) (nI e) := by
  unfold wpY_three
  dsimp only
  rw [nI_clamp (n := c) (by omega), nI_clamp (n := d) (by omega), nI_clamp (n := e) (by omega)]
  exact ⟨vp_in_nI (by omega) (by omega), qq_Y2 (r := 1) (s := 2) (by omega) (by omega) hd he ⟨vp_in_nI (by omega) (by omega), qq_Y2 (r := 1) (s := 2) (by omega) (by omega) hc he ⟨vp_in_nI (by omega) (by omega), qq_Y2 (r := 1) (s := 2) (by omega) (by omega) hc hd h⟩⟩⟩
theorem i_vc_determinant {k : Nat} {u : SX} {v : SY} (I : i_Rel k u v) (hk : k + 4 ≤ 2048) : wpX_determinant (fun r => wpY_determinant (fun r' => r' = r ∧ i_Rel (k + 4) u v) v) u := by
  obtain ⟨f, g, h, rfl, rfl, H⟩ := I
  unfold wpX_determinant wpY_determinant
  dsimp only
  exact qq_X3 (c := 0) (d := 1) (e := 2) (by omega) (by omega) (by omega) (qq_Y3 (c := 0) (d := 1) (e := 2) (by omega) (by omega) (by omega) ⟨rfl, f, g, h, rfl, rfl, H⟩)
end
section
/-! the divisors D(k): X's loops and Y's loops as folds of the common divisor -/
def qq_up (F : Nat → Nat → Nat) : Nat → Nat → Nat → Nat
  | 0, _, a => a
  | k + 1, i, a => qq_up F k (i + 1) (F a i)
theorem qq_up_le {F : Nat → Nat → Nat} (hF : ∀ a i, a ≤ 5000 → F a i ≤ 5000) : ∀ k i a, a ≤ 5000 → qq_up F k i a ≤ 5000 := by
  intro k
  induction k with
  | zero => intro i a h; exact h
  | succ k ih => intro i a h; exact ih _ _ (hF a i h)
/-! X, size one -/
def qq_F1 (f : Nat → Int32) (r a c : Nat) : Nat := Nat.gcd a (qq_na (f (r * 4 + c)))
def qq_E1 (f : Nat → Int32) (cols a r : Nat) : Nat := qq_up (qq_F1 f r) cols 0 a
theorem qq_F1_le {f : Nat → Int32} (H : qq_ok f) (r a c : Nat) (h : a ≤ 5000) : qq_F1 f r a c ≤ 5000 := qq_gle h (qq_n1 H _)
theorem qq_E1_le {f : Nat → Int32} (H : qq_ok f) (cols a r : Nat) (h : a ≤ 5000) : qq_E1 f cols a r ≤ 5000 := qq_up_le (qq_F1_le H r) _ _ _ h
theorem qq_X1_12 {post : Int32 → Prop} {J4 : Int32 → Int32 → Prop} {f g : Nat → Int32} {cols r : Nat} (H : qq_ok f) (hr : r < 3) (hC : cols ≤ 4) : ∀ k c a n, c + k = cols → k < n → a ≤ 5000 → J4 (nI (qq_up (qq_F1 f r) k c a)) (nI (r + 1)) → wX_divisorOfOnes_12 post J4 (nI cols) (nI r) f g n (nI a) (nI c) := by
  intro k
  induction k with
  | zero =>
    intro c a n hc hn ha h
    obtain ⟨n, rfl⟩ : ∃ m, n = m + 1 := ⟨n - 1, by omega⟩
    exact br_t (nI_le (by omega) (by omega)) (nm_r (nI_1 r) h)
  | succ k ih =>
    intro c a n hc hn ha h
    obtain ⟨n, rfl⟩ : ∃ m, n = m + 1 := ⟨n - 1, by omega⟩
    refine br_f (nI_ge (by omega) (by omega)) ?_
    rw [qq_ix, nI_clamp (by omega)]
    exact ⟨vp_in_nI (by omega) (by omega), qq_gX ha (qq_n1 H _) (nm_r (nI_1 c) (ih (c + 1) _ n (by omega) (by omega) (qq_F1_le H r a c ha) h))⟩
theorem qq_X1_4 {post : Int32 → Prop} {f g : Nat → Int32} {cols : Nat} (H : qq_ok f) (hC : cols ≤ 4) : ∀ k r a n, r + k = 3 → k < n → a ≤ 5000 → post (nI (qq_up (qq_E1 f cols) k r a)) → wX_divisorOfOnes_4 post (nI cols) f g n (nI a) (nI r) := by
  intro k
  induction k with
  | zero =>
    intro r a n hr hn ha h
    obtain ⟨n, rfl⟩ : ∃ m, n = m + 1 := ⟨n - 1, by omega⟩
    exact br_t (nI_le (a := 3) (by omega) (by omega)) h
  | succ k ih =>
    intro r a n hr hn ha h
    obtain ⟨n, rfl⟩ : ∃ m, n = m + 1 := ⟨n - 1, by omega⟩
    exact br_f (nI_ge (b := 3) (by omega) (by omega)) ⟨cols + 1, qq_X1_12 H (by omega) hC cols 0 a _ (by omega) (by omega) ha (ih (r + 1) _ n (by omega) (by omega) (qq_E1_le H cols a r ha) h)⟩
def qq_d1 (f : Nat → Int32) (cols : Nat) : Nat := qq_up (qq_E1 f cols) 3 0 0
theorem qq_X1 {post : Int32 → Prop} {f g : Nat → Int32} {cols : Nat} (H : qq_ok f) (hC : cols ≤ 4) (h : post (nI (qq_d1 f cols))) : wpX_divisorOfOnes post (f, g) (nI cols) :=
  ⟨4, qq_X1_4 H hC 3 0 0 4 (by omega) (by omega) (by omega) h⟩
/-! X, size two -/
def qq_F2 (f : Nat → Int32) (r s c a d : Nat) : Nat := Nat.gcd a (qq_na (qq_m2 f r s c d))
def qq_E2 (f : Nat → Int32) (cols r s a c : Nat) : Nat := qq_up (qq_F2 f r s c) (cols - (c + 1)) (c + 1) a
def qq_S2 (f : Nat → Int32) (cols r a s : Nat) : Nat := qq_up (qq_E2 f cols r s) cols 0 a
def qq_R2 (f : Nat → Int32) (cols a r : Nat) : Nat := qq_up (qq_S2 f cols r) (3 - (r + 1)) (r + 1) a
theorem qq_F2_le {f : Nat → Int32} (H : qq_ok f) (r s c a d : Nat) (h : a ≤ 5000) : qq_F2 f r s c a d ≤ 5000 := qq_gle h (qq_n2 H _ _ _ _)
theorem qq_E2_le {f : Nat → Int32} (H : qq_ok f) (cols r s a c : Nat) (h : a ≤ 5000) : qq_E2 f cols r s a c ≤ 5000 := qq_up_le (qq_F2_le H r s c) _ _ _ h
theorem qq_S2_le {f : Nat → Int32} (H : qq_ok f) (cols r a s : Nat) (h : a ≤ 5000) : qq_S2 f cols r a s ≤ 5000 := qq_up_le (qq_E2_le H cols r s) _ _ _ h
theorem qq_R2_le {f : Nat → Int32} (H : qq_ok f) (cols a r : Nat) (h : a ≤ 5000) : qq_R2 f cols a r ≤ 5000 := qq_up_le (qq_S2_le H cols r) _ _ _ h
theorem qq_X2_35 {post : Int32 → Prop} {J4 J14 J23 : Int32 → Int32 → Prop} {f g : Nat → Int32} {cols r s c : Nat} (H : qq_ok f) (hr : r < 3) (hs : s < 3) (hc : c < 4) (hC : cols ≤ 4) : ∀ k d a n, d + k = cols → k < n → a ≤ 5000 → J23 (nI (qq_up (qq_F2 f r s c) k d a)) (nI (c + 1)) → wX_divisorOfTwos_35 post J4 J14 J23 (nI cols) (nI r) (nI s) (nI c) f g n (nI a) (nI d) := by
  intro k
  induction k with
  | zero =>
    intro d a n hd hn ha h
    obtain ⟨n, rfl⟩ : ∃ m, n = m + 1 := ⟨n - 1, by omega⟩
    exact br_t (nI_le (by omega) (by omega)) (nm_r (nI_1 c) h)
  | succ k ih =>
    intro d a n hd hn ha h
    obtain ⟨n, rfl⟩ : ∃ m, n = m + 1 := ⟨n - 1, by omega⟩
    exact br_f (nI_ge (by omega) (by omega)) (qq_X2 hr hs hc (by omega) (qq_gX ha (qq_n2 H _ _ _ _) (nm_r (nI_1 d) (ih (d + 1) _ n (by omega) (by omega) (qq_F2_le H r s c a d ha) h))))
theorem qq_X2_23 {post : Int32 → Prop} {J4 J14 : Int32 → Int32 → Prop} {f g : Nat → Int32} {cols r s : Nat} (H : qq_ok f) (hr : r < 3) (hs : s < 3) (hC : cols ≤ 4) : ∀ k c a n, c + k = cols → k < n → a ≤ 5000 → J14 (nI (qq_up (qq_E2 f cols r s) k c a)) (nI (s + 1)) → wX_divisorOfTwos_23 post J4 J14 (nI cols) (nI r) (nI s) f g n (nI a) (nI c) := by
  intro k
  induction k with
  | zero =>
    intro c a n hc hn ha h
    obtain ⟨n, rfl⟩ : ∃ m, n = m + 1 := ⟨n - 1, by omega⟩
    exact br_t (nI_le (by omega) (by omega)) (nm_r (nI_1 s) h)
  | succ k ih =>
    intro c a n hc hn ha h
    obtain ⟨n, rfl⟩ : ∃ m, n = m + 1 := ⟨n - 1, by omega⟩
    exact br_f (nI_ge (by omega) (by omega)) (nm_r (nI_1 c) ⟨cols - (c + 1) + 1, qq_X2_35 H hr hs (by omega) hC (cols - (c + 1)) (c + 1) a _ (by omega) (by omega) ha (ih (c + 1) _ n (by omega) (by omega) (qq_E2_le H cols r s a c ha) h)⟩)
theorem qq_X2_14 {post : Int32 → Prop} {J4 : Int32 → Int32 → Prop} {f g : Nat → Int32} {cols r : Nat} (H : qq_ok f) (hr : r < 3) (hC : cols ≤ 4) : ∀ k s a n, s + k = 3 → k < n → a ≤ 5000 → J4 (nI (qq_up (qq_S2 f cols r) k s a)) (nI (r + 1)) → wX_divisorOfTwos_14 post J4 (nI cols) (nI r) f g n (nI a) (nI s) := by
  intro k
  induction k with
  | zero =>
    intro s a n hs hn ha h
    obtain ⟨n, rfl⟩ : ∃ m, n = m + 1 := ⟨n - 1, by omega⟩
    exact br_t (nI_le (a := 3) (by omega) (by omega)) (nm_r (nI_1 r) h)
  | succ k ih =>
    intro s a n hs hn ha h
    obtain ⟨n, rfl⟩ : ∃ m, n = m + 1 := ⟨n - 1, by omega⟩
    exact br_f (nI_ge (b := 3) (by omega) (by omega)) ⟨cols + 1, qq_X2_23 H hr (by omega) hC cols 0 a _ (by omega) (by omega) ha (ih (s + 1) _ n (by omega) (by omega) (qq_S2_le H cols r a s ha) h)⟩
theorem qq_X2_4 {post : Int32 → Prop} {f g : Nat → Int32} {cols : Nat} (H : qq_ok f) (hC : cols ≤ 4) : ∀ k r a n, r + k = 3 → k < n → a ≤ 5000 → post (nI (qq_up (qq_R2 f cols) k r a)) → wX_divisorOfTwos_4 post (nI cols) f g n (nI a) (nI r) := by
  intro k
  induction k with
  | zero =>
    intro r a n hr hn ha h
    obtain ⟨n, rfl⟩ : ∃ m, n = m + 1 := ⟨n - 1, by omega⟩
    exact br_t (nI_le (a := 3) (by omega) (by omega)) h
  | succ k ih =>
    intro r a n hr hn ha h
    obtain ⟨n, rfl⟩ : ∃ m, n = m + 1 := ⟨n - 1, by omega⟩
    exact br_f (nI_ge (b := 3) (by omega) (by omega)) (nm_r (nI_1 r) ⟨3 - (r + 1) + 1, qq_X2_14 H (by omega) hC (3 - (r + 1)) (r + 1) a _ (by omega) (by omega) ha (ih (r + 1) _ n (by omega) (by omega) (qq_R2_le H cols a r ha) h)⟩)
def qq_d2 (f : Nat → Int32) (cols : Nat) : Nat := qq_up (qq_R2 f cols) 3 0 0
theorem qq_Xd2 {post : Int32 → Prop} {f g : Nat → Int32} {cols : Nat} (H : qq_ok f) (hC : cols ≤ 4) (h : post (nI (qq_d2 f cols))) : wpX_divisorOfTwos post (f, g) (nI cols) :=
  ⟨4, qq_X2_4 H hC 3 0 0 4 (by omega) (by omega) (by omega) h⟩
/-! X, size three -/
def qq_F3 (f : Nat → Int32) (c d a e : Nat) : Nat := Nat.gcd a (qq_na (qq_m3 f c d e))
def qq_E3 (f : Nat → Int32) (cols c a d : Nat) : Nat := qq_up (qq_F3 f c d) (cols - (d + 1)) (d + 1) a
def qq_R3 (f : Nat → Int32) (cols a c : Nat) : Nat := qq_up (qq_E3 f cols c) (cols - (c + 1)) (c + 1) a
theorem qq_F3_le {f : Nat → Int32} (H : qq_ok f) (c d a e : Nat) (h : a ≤ 5000) : qq_F3 f c d a e ≤ 5000 := qq_gle h (qq_n3 H _ _ _)
theorem qq_E3_le {f : Nat → Int32} (H : qq_ok f) (cols c a d : Nat) (h : a ≤ 5000) : qq_E3 f cols c a d ≤ 5000 := qq_up_le (qq_F3_le H c d) _ _ _ h
theorem qq_R3_le {f : Nat → Int32} (H : qq_ok f) (cols a c : Nat) (h : a ≤ 5000) : qq_R3 f cols a c ≤ 5000 := qq_up_le (qq_E3_le H cols c) _ _ _ h
theorem qq_X3_26 {post : Int32 → Prop} {J4 J14 : Int32 → Int32 → Prop} {f g : Nat → Int32} {cols c d : Nat} (H : qq_ok f) (hc : c < 4) (hd : d < 4) (hC : cols ≤ 4) : ∀ k e a n, e + k = cols → k < n → a ≤ 5000 → J14 (nI (qq_up (qq_F3 f c d) k e a)) (nI (d + 1)) → wX_divisorOfThrees_26 post J4 J14 (nI cols) (nI c) (nI d) f g n (nI a) (nI e) := by
  intro k
  induction k with
  | zero =>
    intro e a n he hn ha h
    obtain ⟨n, rfl⟩ : ∃ m, n = m + 1 := ⟨n - 1, by omega⟩
    exact br_t (nI_le (by omega) (by omega)) (nm_r (nI_1 d) h)
  | succ k ih =>
    intro e a n he hn ha h
    obtain ⟨n, rfl⟩ : ∃ m, n = m + 1 := ⟨n - 1, by omega⟩
    exact br_f (nI_ge (by omega) (by omega)) (qq_X3 hc hd (by omega) (qq_gX ha (qq_n3 H _ _ _) (nm_r (nI_1 e) (ih (e + 1) _ n (by omega) (by omega) (qq_F3_le H c d a e ha) h))))
theorem qq_X3_14 {post : Int32 → Prop} {J4 : Int32 → Int32 → Prop} {f g : Nat → Int32} {cols c : Nat} (H : qq_ok f) (hc : c < 4) (hC : cols ≤ 4) : ∀ k d a n, d + k = cols → k < n → a ≤ 5000 → J4 (nI (qq_up (qq_E3 f cols c) k d a)) (nI (c + 1)) → wX_divisorOfThrees_14 post J4 (nI cols) (nI c) f g n (nI a) (nI d) := by
  intro k
  induction k with
  | zero =>
    intro d a n hd hn ha h
    obtain ⟨n, rfl⟩ : ∃ m, n = m + 1 := ⟨n - 1, by omega⟩
    exact br_t (nI_le (by omega) (by omega)) (nm_r (nI_1 c) h)
  | succ k ih =>
    intro d a n hd hn ha h
    obtain ⟨n, rfl⟩ : ∃ m, n = m + 1 := ⟨n - 1, by omega⟩
    exact br_f (nI_ge (by omega) (by omega)) (nm_r (nI_1 d) ⟨cols - (d + 1) + 1, qq_X3_26 H hc (by omega) hC (cols - (d + 1)) (d + 1) a _ (by omega) (by omega) ha (ih (d + 1) _ n (by omega) (by omega) (qq_E3_le H cols c a d ha) h)⟩)
theorem qq_X3_4 {post : Int32 → Prop} {f g : Nat → Int32} {cols : Nat} (H : qq_ok f) (hC : cols ≤ 4) : ∀ k c a n, c + k = cols → k < n → a ≤ 5000 → post (nI (qq_up (qq_R3 f cols) k c a)) → wX_divisorOfThrees_4 post (nI cols) f g n (nI a) (nI c) := by
  intro k
  induction k with
  | zero =>
    intro c a n hc hn ha h
    obtain ⟨n, rfl⟩ : ∃ m, n = m + 1 := ⟨n - 1, by omega⟩
    exact br_t (nI_le (by omega) (by omega)) h
  | succ k ih =>
    intro c a n hc hn ha h
    obtain ⟨n, rfl⟩ : ∃ m, n = m + 1 := ⟨n - 1, by omega⟩
    exact br_f (nI_ge (by omega) (by omega)) (nm_r (nI_1 c) ⟨cols - (c + 1) + 1, qq_X3_14 H (by omega) hC (cols - (c + 1)) (c + 1) a _ (by omega) (by omega) ha (ih (c + 1) _ n (by omega) (by omega) (qq_R3_le H cols a c ha) h)⟩)
def qq_d3 (f : Nat → Int32) (cols : Nat) : Nat := qq_up (qq_R3 f cols) cols 0 0
theorem qq_Xd3 {post : Int32 → Prop} {f g : Nat → Int32} {cols : Nat} (H : qq_ok f) (hC : cols ≤ 4) (h : post (nI (qq_d3 f cols))) : wpX_divisorOfThrees post (f, g) (nI cols) :=
  ⟨cols + 1, qq_X3_4 H hC cols 0 0 _ (by omega) (by omega) (by omega) h⟩
def qq_D (f : Nat → Int32) (cols : Nat) : Nat → Nat
  | 0 => 1
  | 1 => qq_d1 f cols
  | 2 => qq_d2 f cols
  | _ => qq_d3 f cols
theorem qq_D_le {f : Nat → Int32} (H : qq_ok f) (cols k : Nat) : qq_D f cols k ≤ 5000 := by
  match k with
  | 0 => exact (by decide : 1 ≤ 5000)
  | 1 => exact qq_up_le (qq_E1_le H cols) _ _ _ (by omega)
  | 2 => exact qq_up_le (qq_R2_le H cols) _ _ _ (by omega)
  | k + 3 => exact qq_up_le (qq_R3_le H cols) _ _ _ (by omega)
theorem qq_DX {post : Int32 → Prop} {f g : Nat → Int32} {cols k : Nat} (H : qq_ok f) (hC : cols ≤ 4) (hk : k ≤ 3) (h : post (nI (qq_D f cols k))) : wpX_divisor post (f, g) (nI k) (nI cols) := by
  unfold wpX_divisor
  dsimp only
  match k, hk with
  | 0, _ => exact br_t (by decide) h
  | 1, _ => exact br_f (by decide) (br_f (by decide) (br_t rfl (qq_X1 H hC h)))
  | 2, _ => exact br_f (by decide) (br_f (by decide) (br_f (by decide) (br_t rfl (qq_Xd2 H hC h))))
  | 3, _ => exact br_f (by decide) (br_f (by decide) (br_f (by decide) (br_f (by decide) (br_t rfl (qq_Xd3 H hC h)))))
end
section
/-! Y's divisor -/
def qq_G1 (f : Nat → Int32) (cols a i : Nat) : Nat := if i % 4 < cols then Nat.gcd a (qq_na (f i)) else a
def qq_G2 (f : Nat → Int32) (cols a i : Nat) : Nat := if i / 4 < i % 4 ∧ i % 4 < cols then Nat.gcd (Nat.gcd (Nat.gcd a (qq_na (qq_m2 f 0 1 (i / 4) (i % 4)))) (qq_na (qq_m2 f 0 2 (i / 4) (i % 4)))) (qq_na (qq_m2 f 1 2 (i / 4) (i % 4))) else a
def qq_H3 (f : Nat → Int32) (cols a c d e : Nat) : Nat := if e < cols then Nat.gcd a (qq_na (qq_m3 f c d e)) else a
def qq_G3 (f : Nat → Int32) (cols a i : Nat) : Nat := qq_H3 f cols a (if i = 0 then 1 else 0) (if i ≤ 1 then 2 else 1) (if i ≤ 2 then 3 else 2)
theorem qq_G1_le {f : Nat → Int32} (H : qq_ok f) (cols a i : Nat) (h : a ≤ 5000) : qq_G1 f cols a i ≤ 5000 := by
  unfold qq_G1
  split
  · exact qq_gle h (qq_n1 H _)
  · exact h
theorem qq_G2_le {f : Nat → Int32} (H : qq_ok f) (cols a i : Nat) (h : a ≤ 5000) : qq_G2 f cols a i ≤ 5000 := by
  unfold qq_G2
  split
  · exact qq_gle (qq_gle (qq_gle h (qq_n2 H _ _ _ _)) (qq_n2 H _ _ _ _)) (qq_n2 H _ _ _ _)
  · exact h
theorem qq_H3_le {f : Nat → Int32} (H : qq_ok f) (cols a c d e : Nat) (h : a ≤ 5000) : qq_H3 f cols a c d e ≤ 5000 := by
  unfold qq_H3
  split
  · exact qq_gle h (qq_n3 H _ _ _)
  · exact h
theorem qq_G3_le {f : Nat → Int32} (H : qq_ok f) (cols a i : Nat) (h : a ≤ 5000) : qq_G3 f cols a i ≤ 5000 := qq_H3_le H _ _ _ _ _ h
theorem qq_na0 : qq_na 0 = 0 := by decide
theorem qq_gY0 {post : Int32 → Prop} {f h : Nat → Int32} {g : Nat} (hg : g ≤ 5000) (hp : post (nI g)) : wpY_common post (f, h) (nI g) 0 :=
  qq_gY hg (by rw [qq_na0]; omega) (by rw [qq_na0, Nat.gcd_zero_right]; exact hp)
theorem qq_r4 {i : Nat} (h : i < 2 ^ 31) : nI i - nI i / 4 * 4 = nI (i % 4) := pk_rem (d := 4) h (by omega) (by omega)
theorem qq_q4 {i : Nat} (h : i < 2 ^ 31) : nI i / 4 = nI (i / 4) := pk_div (d := 4) h (by omega) (by omega)
theorem qq_Y13 {post : Int32 → Prop} {f h : Nat → Int32} {cols : Nat} (H : qq_ok f) (hC : cols ≤ 4) : ∀ k i a n, i + k = 12 → k < n → a ≤ 5000 → post (nI (qq_up (qq_G1 f cols) k i a)) → wY_divisor_13 post (nI 1) (nI cols) f h n (nI a) (nI i) := by
  intro k
  induction k with
  | zero =>
    intro i a n hi hn ha hp
    obtain ⟨n, rfl⟩ : ∃ m, n = m + 1 := ⟨n - 1, by omega⟩
    exact br_t rfl (br_t (nI_le (a := 12) (by omega) (by omega)) ⟨1, br_f (by decide) ⟨1, br_f (by decide) hp⟩⟩)
  | succ k ih =>
    intro i a n hi hn ha hp
    obtain ⟨n, rfl⟩ : ∃ m, n = m + 1 := ⟨n - 1, by omega⟩
    refine br_t rfl (br_f (nI_ge (b := 12) (by omega) (by omega)) ⟨by decide, ?_⟩)
    rw [qq_r4 (by omega), nI_clamp (by omega)]
    have hG := qq_G1_le H cols a i ha
    have hp' : post (nI (qq_up (qq_G1 f cols) k (i + 1) (qq_G1 f cols a i))) := hp
    by_cases hc : i % 4 < cols
    · have e : qq_G1 f cols a i = Nat.gcd a (qq_na (f i)) := if_pos hc
      rw [e] at hG hp'
      exact br_f (nI_ge hc (by omega)) ⟨vp_in_nI (by omega) (by omega), qq_gY ha (qq_n1 H _) (nm_r (nI_1 i) (ih (i + 1) _ n (by omega) (by omega) hG hp'))⟩
    · have e : qq_G1 f cols a i = a := if_neg hc
      rw [e] at hp'
      exact br_t (nI_le (by omega) (by omega)) (nm_r (nI_1 i) (ih (i + 1) _ n (by omega) (by omega) ha hp'))
theorem qq_Y55 {post : Int32 → Prop} {f h : Nat → Int32} {cols : Nat} (H : qq_ok f) (hC : cols ≤ 4) : ∀ k i a n, i + k = 16 → k < n → a ≤ 5000 → post (nI (qq_up (qq_G2 f cols) k i a)) → wY_divisor_55 post (nI 2) (nI cols) f h n (nI a) (nI i) := by
  intro k
  induction k with
  | zero =>
    intro i a n hi hn ha hp
    obtain ⟨n, rfl⟩ : ∃ m, n = m + 1 := ⟨n - 1, by omega⟩
    exact br_t rfl (br_t (nI_le (a := 16) (by omega) (by omega)) ⟨1, br_f (by decide) hp⟩)
  | succ k ih =>
    intro i a n hi hn ha hp
    obtain ⟨n, rfl⟩ : ∃ m, n = m + 1 := ⟨n - 1, by omega⟩
    refine br_t rfl (br_f (nI_ge (b := 16) (by omega) (by omega)) ⟨by decide, nm_r (qq_q4 (by omega)) ⟨by decide, nm_r (qq_r4 (by omega)) ?_⟩⟩)
    have hG := qq_G2_le H cols a i ha
    have hp' : post (nI (qq_up (qq_G2 f cols) k (i + 1) (qq_G2 f cols a i))) := hp
    have h4 : i / 4 < 4 := by omega
    have h5 : i % 4 < 4 := by omega
    by_cases hc : i / 4 < i % 4 ∧ i % 4 < cols
    · have e : qq_G2 f cols a i = _ := if_pos hc
      rw [e] at hG hp'
      refine br_f (nI_ge hc.1 (by omega)) (br_f (nI_ge hc.2 (by omega)) ?_)
      refine br_f (by decide) (qq_Y2 (r := 0) (s := 1) (by omega) (by omega) h4 h5 ?_)
      refine br_f (by decide) (qq_Y2 (r := 0) (s := 2) (by omega) (by omega) h4 h5 ?_)
      refine br_f (by decide) (qq_Y2 (r := 1) (s := 2) (by omega) (by omega) h4 h5 ?_)
      refine qq_gY ha (qq_n2 H _ _ _ _) ?_
      refine qq_gY (qq_gle ha (qq_n2 H _ _ _ _)) (qq_n2 H _ _ _ _) ?_
      refine qq_gY (qq_gle (qq_gle ha (qq_n2 H _ _ _ _)) (qq_n2 H _ _ _ _)) (qq_n2 H _ _ _ _) ?_
      exact nm_r (nI_1 i) (ih (i + 1) _ n (by omega) (by omega) hG hp')
    · have e : qq_G2 f cols a i = a := if_neg hc
      rw [e] at hp'
      have w : wY_divisor_96 post (wY_divisor_55 post (nI 2) (nI cols) f h n) (nI 2) (nI cols) (nI a) (nI i) (nI (i / 4)) (nI (i % 4)) f h := by
        refine br_t rfl (br_t rfl (br_t rfl ?_))
        exact qq_gY0 ha (qq_gY0 ha (qq_gY0 ha (nm_r (nI_1 i) (ih (i + 1) _ n (by omega) (by omega) ha hp'))))
      by_cases h1 : i % 4 ≤ i / 4
      · exact br_t (nI_le h1 (by omega)) w
      · exact br_f (nI_ge (by omega) (by omega)) (br_t (nI_le (by omega) (by omega)) w)
theorem qq_Y242 {post : Int32 → Prop} {J : Int32 → Int32 → Prop} {f h : Nat → Int32} {x1 : Int32} {cols a i : Nat} (H : qq_ok f) (hC : cols ≤ 4) (ha : a ≤ 5000) (c d e : Nat) (hc : c < 4) (hd : d < 4) (he : e < 4) (hp : J (nI (qq_H3 f cols a c d e)) (nI (i + 1))) : wY_divisor_242 post J x1 (nI cols) (nI a) (nI i) (nI c) (nI d) (nI e) f h := by
  unfold qq_H3 at hp
  by_cases q : e < cols
  · rw [if_pos q] at hp
    exact br_f (nI_ge q (by omega)) (qq_Y3 hc hd he (qq_gY ha (qq_n3 H _ _ _) (nm_r (nI_1 i) hp)))
  · rw [if_neg q] at hp
    exact br_t (nI_le (by omega) (by omega)) (qq_gY0 ha (nm_r (nI_1 i) hp))
theorem qq_Y195 {post : Int32 → Prop} {f h : Nat → Int32} {cols : Nat} (H : qq_ok f) (hC : cols ≤ 4) (hp : post (nI (qq_up (qq_G3 f cols) 4 0 0))) : wY_divisor_195 post (nI 3) (nI cols) f h 5 (nI 0) (nI 0) := by
  have b0 : (0 : Nat) ≤ 5000 := by omega
  have b1 := qq_G3_le H cols 0 0 b0
  have b2 := qq_G3_le H cols _ 1 b1
  have b3 := qq_G3_le H cols _ 2 b2
  refine br_t rfl (br_f (by decide) (br_t rfl (br_f (by decide) (br_f (by decide) (qq_Y242 H hC b0 1 2 3 (by omega) (by omega) (by omega) ?_)))))
  refine br_t rfl (br_f (by decide) (br_f (by decide) (br_f (by decide) (br_f (by decide) (qq_Y242 H hC b1 0 2 3 (by omega) (by omega) (by omega) ?_)))))
  refine br_t rfl (br_f (by decide) (br_f (by decide) (br_t (by decide) (br_f (by decide) (qq_Y242 H hC b2 0 1 3 (by omega) (by omega) (by omega) ?_)))))
  refine br_t rfl (br_f (by decide) (br_f (by decide) (br_t (by decide) (br_t (by decide) (qq_Y242 H hC b3 0 1 2 (by omega) (by omega) (by omega) ?_)))))
  exact br_t rfl (br_t (by decide) hp)
theorem qq_ac2_3 (a0101 a0102 a0112 a0201 a0202 a0212 a1201 a1202 a1212 : Nat) : Nat.gcd (Nat.gcd (Nat.gcd (Nat.gcd (Nat.gcd (Nat.gcd (Nat.gcd (Nat.gcd (Nat.gcd 0 a0101) a0201) a1201) a0102) a0202) a1202) a0112) a0212) a1212 = Nat.gcd (Nat.gcd (Nat.gcd (Nat.gcd (Nat.gcd (Nat.gcd (Nat.gcd (Nat.gcd (Nat.gcd 0 a0101) a0102) a0112) a0201) a0202) a0212) a1201) a1202) a1212 := by
  ac_rfl
theorem qq_e2_3 (f : Nat → Int32) : qq_up (qq_G2 f 3) 16 0 0 = qq_d2 f 3 := qq_ac2_3 (qq_na (qq_m2 f 0 1 0 1)) (qq_na (qq_m2 f 0 1 0 2)) (qq_na (qq_m2 f 0 1 1 2)) (qq_na (qq_m2 f 0 2 0 1)) (qq_na (qq_m2 f 0 2 0 2)) (qq_na (qq_m2 f 0 2 1 2)) (qq_na (qq_m2 f 1 2 0 1)) (qq_na (qq_m2 f 1 2 0 2)) (qq_na (qq_m2 f 1 2 1 2))
theorem qq_ac2_4 (a0101 a0102 a0103 a0112 a0113 a0123 a0201 a0202 a0203 a0212 a0213 a0223 a1201 a1202 a1203 a1212 a1213 a1223 : Nat) : Nat.gcd (Nat.gcd (Nat.gcd (Nat.gcd (Nat.gcd (Nat.gcd (Nat.gcd (Nat.gcd (Nat.gcd (Nat.gcd (Nat.gcd (Nat.gcd (Nat.gcd (Nat.gcd (Nat.gcd (Nat.gcd (Nat.gcd (Nat.gcd 0 a0101) a0201) a1201) a0102) a0202) a1202) a0103) a0203) a1203) a0112) a0212) a1212) a0113) a0213) a1213) a0123) a0223) a1223 = Nat.gcd (Nat.gcd (Nat.gcd (Nat.gcd (Nat.gcd (Nat.gcd (Nat.gcd (Nat.gcd (Nat.gcd (Nat.gcd (Nat.gcd (Nat.gcd (Nat.gcd (Nat.gcd (Nat.gcd (Nat.gcd (Nat.gcd (Nat.gcd 0 a0101) a0102) a0103) a0112) a0113) a0123) a0201) a0202) a0203) a0212) a0213) a0223) a1201) a1202) a1203) a1212) a1213) a1223 := by
  ac_rfl
theorem qq_e2_4 (f : Nat → Int32) : qq_up (qq_G2 f 4) 16 0 0 = qq_d2 f 4 := qq_ac2_4 (qq_na (qq_m2 f 0 1 0 1)) (qq_na (qq_m2 f 0 1 0 2)) (qq_na (qq_m2 f 0 1 0 3)) (qq_na (qq_m2 f 0 1 1 2)) (qq_na (qq_m2 f 0 1 1 3)) (qq_na (qq_m2 f 0 1 2 3)) (qq_na (qq_m2 f 0 2 0 1)) (qq_na (qq_m2 f 0 2 0 2)) (qq_na (qq_m2 f 0 2 0 3)) (qq_na (qq_m2 f 0 2 1 2)) (qq_na (qq_m2 f 0 2 1 3)) (qq_na (qq_m2 f 0 2 2 3)) (qq_na (qq_m2 f 1 2 0 1)) (qq_na (qq_m2 f 1 2 0 2)) (qq_na (qq_m2 f 1 2 0 3)) (qq_na (qq_m2 f 1 2 1 2)) (qq_na (qq_m2 f 1 2 1 3)) (qq_na (qq_m2 f 1 2 2 3))
theorem qq_ac3_4 (a012 a013 a023 a123 : Nat) : Nat.gcd (Nat.gcd (Nat.gcd (Nat.gcd 0 a123) a023) a013) a012 = Nat.gcd (Nat.gcd (Nat.gcd (Nat.gcd 0 a012) a013) a023) a123 := by
  ac_rfl
theorem qq_e3_4 (f : Nat → Int32) : qq_up (qq_G3 f 4) 4 0 0 = qq_d3 f 4 := qq_ac3_4 (qq_na (qq_m3 f 0 1 2)) (qq_na (qq_m3 f 0 1 3)) (qq_na (qq_m3 f 0 2 3)) (qq_na (qq_m3 f 1 2 3))
theorem qq_e3_3 (f : Nat → Int32) : qq_up (qq_G3 f 3) 4 0 0 = qq_d3 f 3 := rfl
theorem qq_e1_3 (f : Nat → Int32) : qq_up (qq_G1 f 3) 12 0 0 = qq_d1 f 3 := rfl
theorem qq_e1_4 (f : Nat → Int32) : qq_up (qq_G1 f 4) 12 0 0 = qq_d1 f 4 := rfl
theorem qq_DY {post : Int32 → Prop} {f g : Nat → Int32} {cols k : Nat} (H : qq_ok f) (hC : cols = 3 ∨ cols = 4) (hk : k ≤ 3) (h : post (nI (qq_D f cols k))) : wpY_divisor post (f, g) (nI k) (nI cols) := by
  have hC4 : cols ≤ 4 := by omega
  have e1 : qq_up (qq_G1 f cols) 12 0 0 = qq_d1 f cols := by
    rcases hC with rfl | rfl
    · exact qq_e1_3 f
    · exact qq_e1_4 f
  have e2 : qq_up (qq_G2 f cols) 16 0 0 = qq_d2 f cols := by
    rcases hC with rfl | rfl
    · exact qq_e2_3 f
    · exact qq_e2_4 f
  have e3 : qq_up (qq_G3 f cols) 4 0 0 = qq_d3 f cols := by
    rcases hC with rfl | rfl
    · exact qq_e3_3 f
    · exact qq_e3_4 f
  unfold wpY_divisor
  dsimp only
  match k, hk with
  | 0, _ => exact br_t rfl ⟨1, br_f (by decide) ⟨1, br_f (by decide) ⟨1, br_f (by decide) h⟩⟩⟩
  | 1, _ => exact br_f (by decide) ⟨13, qq_Y13 H hC4 12 0 0 13 (by omega) (by omega) (by omega) (by rw [e1]; exact h)⟩
  | 2, _ => exact br_f (by decide) ⟨1, br_f (by decide) ⟨17, qq_Y55 H hC4 16 0 0 17 (by omega) (by omega) (by omega) (by rw [e2]; exact h)⟩⟩
  | 3, _ => exact br_f (by decide) ⟨1, br_f (by decide) ⟨1, br_f (by decide) ⟨5, qq_Y195 H hC4 (by rw [e3]; exact h)⟩⟩⟩
end
section
/-! rank, invariant, solvable, only -/
def qq_rk (D : Nat → Nat) : Nat → Nat
  | 0 => 0
  | k + 1 => if D (k + 1) = 0 then qq_rk D k else k + 1
theorem qq_rk_le (D : Nat → Nat) : ∀ k, qq_rk D k ≤ k := by
  intro k
  induction k with
  | zero => exact Nat.le_refl _
  | succ k ih =>
    unfold qq_rk
    split
    · exact Nat.le_trans ih (by omega)
    · exact Nat.le_refl _
theorem qq_rkX {post : Int32 → Prop} {f g : Nat → Int32} {cols : Nat} (H : qq_ok f) (hC : cols ≤ 4) : ∀ k n, k ≤ 3 → k < n → post (nI (qq_rk (qq_D f cols) k)) → wX_rankOfFirst_2 post (nI cols) f g n (nI k) := by
  intro k
  induction k with
  | zero =>
    intro n hk hn h
    obtain ⟨n, rfl⟩ : ∃ m, n = m + 1 := ⟨n - 1, by omega⟩
    exact br_t (by decide) h
  | succ k ih =>
    intro n hk hn h
    obtain ⟨n, rfl⟩ : ∃ m, n = m + 1 := ⟨n - 1, by omega⟩
    refine br_f (nI_nlt (b := 1) (by omega) (by omega)) (qq_DX H hC hk ?_)
    have hl := qq_D_le H cols (k + 1)
    unfold qq_rk at h
    by_cases z : qq_D f cols (k + 1) = 0
    · rw [if_pos z] at h
      exact br_t (by rw [z]; rfl) (nm_r (pk_m1 k) (ih n (by omega) (by omega) h))
    · rw [if_neg z] at h
      exact br_f (nI_ne0 (by omega) (by omega)) h
theorem qq_rkY {post : Int32 → Prop} {f g : Nat → Int32} {cols : Nat} (H : qq_ok f) (hC : cols = 3 ∨ cols = 4) : ∀ k n, k ≤ 3 → k < n → post (nI (qq_rk (qq_D f cols) k)) → wY_rankOf_2 post (nI cols) f g n (nI k) := by
  intro k
  induction k with
  | zero =>
    intro n hk hn h
    obtain ⟨n, rfl⟩ : ∃ m, n = m + 1 := ⟨n - 1, by omega⟩
    exact br_t (by decide) h
  | succ k ih =>
    intro n hk hn h
    obtain ⟨n, rfl⟩ : ∃ m, n = m + 1 := ⟨n - 1, by omega⟩
    refine br_f (nI_nle (by omega) (by omega)) (qq_DY H hC hk ?_)
    have hl := qq_D_le H cols (k + 1)
    unfold qq_rk at h
    by_cases z : qq_D f cols (k + 1) = 0
    · rw [if_pos z] at h
      exact br_t (by rw [z]; rfl) (nm_r (pk_m1 k) (ih n (by omega) (by omega) h))
    · rw [if_neg z] at h
      exact br_f (nI_ne0 (by omega) (by omega)) h
theorem qq_rX {post : Int32 → Prop} {f g : Nat → Int32} {cols : Nat} (H : qq_ok f) (hC : cols ≤ 4) (h : post (nI (qq_rk (qq_D f cols) 3))) : wpX_rankOfFirst post (f, g) (nI cols) :=
  ⟨4, qq_rkX H hC 3 4 (by omega) (by omega) h⟩
theorem qq_rY {post : Int32 → Prop} {f g : Nat → Int32} {cols : Nat} (H : qq_ok f) (hC : cols = 3 ∨ cols = 4) (h : post (nI (qq_rk (qq_D f cols) 3))) : wpY_rankOf post (f, g) (nI cols) :=
  ⟨4, qq_rkY H hC 3 4 (by omega) (by omega) h⟩
theorem i_vc_rank {k : Nat} {u : SX} {v : SY} (I : i_Rel k u v) (hk : k + 4 ≤ 2048) : wpX_rank (fun r => wpY_rank (fun r' => r' = r ∧ i_Rel (k + 4) u v) v) u := by
  obtain ⟨f, g, h, rfl, rfl, H⟩ := I
  unfold wpX_rank wpY_rank
  dsimp only
  exact qq_rX (cols := 3) H (by omega) (qq_rY (cols := 3) H (by omega) ⟨rfl, f, g, h, rfl, rfl, H⟩)
theorem i_vc_invariant {k : Nat} {u : SX} {v : SY} (I : i_Rel k u v) (hk : k + 4 ≤ 2048) (v1 : Int32) : wpX_invariant (fun r => wpY_invariant (fun r' => r' = r ∧ i_Rel (k + 4) u v) v v1) u v1 := by
  obtain ⟨f, g, h, rfl, rfl, H⟩ := I
  unfold wpX_invariant wpY_invariant
  dsimp only
  have R : i_Rel (k + 4) (f, g) (f, h) := ⟨f, g, h, rfl, rfl, H⟩
  by_cases h1 : v1 < 1
  · exact br_t h1 (br_t h1 ⟨rfl, R⟩)
  · by_cases h3 : v1 ≤ 3
    · obtain ⟨i, hi, rfl⟩ : ∃ i, i < 3 ∧ v1 = nI (i + 1) := by
        rcases pk_ix v1 (n := 4) (by omega) with q | q | ⟨j, hj, rfl⟩
        · exact absurd (Int32.lt_trans q (by decide)) h1
        · exact absurd (Int32.le_trans q h3) (by decide)
        · have : j ≠ 0 := fun e => h1 (by rw [e]; decide)
          exact ⟨j - 1, by omega, by rw [show j - 1 + 1 = j from by omega]⟩
      rw [nI_pred]
      refine br_f h1 (br_t h3 (qq_DX (cols := 3) H (by omega) (by omega) (qq_DX (cols := 3) H (by omega) (by omega) ?_)))
      have hu := qq_D_le H 3 (i + 1)
      have hl := qq_D_le H 3 i
      generalize hU : qq_D f 3 (i + 1) = U at hu ⊢
      generalize hL : qq_D f 3 i = L at hl ⊢
      have Yz : ∀ r : Int32, (L = 0 → r = 0) → (L ≠ 0 → r = nI U / nI L) → wpY_divisor (fun r_3 => ((r_3 = 0 → ((0 : Int32) = r ∧ i_Rel (k + 4) (f, g) (f, h))) ∧ (¬ r_3 = 0 → (wpY_divisor (fun r_7 => (¬ r_3 = 0 ∧ (r_7 / r_3 = r ∧ i_Rel (k + 4) (f, g) (f, h)))) (f, h) (nI (i + 1)) 3)))) (f, h) (nI i) 3 := by
        intro r hz hn
        refine qq_DY (cols := 3) H (by omega) (by omega) ?_
        rw [hL]
        by_cases z : L = 0
        · exact br_t (by rw [z]; rfl) ⟨(hz z).symm, R⟩
        · have zz : ¬ nI L = 0 := nI_ne0 (by omega) (by omega)
          refine br_f zz (qq_DY (cols := 3) H (by omega) (by omega) ⟨zz, ?_, R⟩)
          rw [hU]
          exact (hn z).symm
      by_cases zu : U = 0
      · refine br_t (by rw [zu]; rfl) (br_f h1 (br_t h3 (Yz 0 (fun _ => rfl) fun z => ?_)))
        rw [zu, pk_div (by omega) (by omega) (by omega), Nat.zero_div]
        rfl
      · refine br_f (nI_ne0 (by omega) (by omega)) ?_
        by_cases zl : L = 0
        · exact br_t (by rw [zl]; rfl) (br_f h1 (br_t h3 (Yz 0 (fun _ => rfl) fun z => absurd zl z)))
        · have zz : ¬ nI L = 0 := nI_ne0 (by omega) (by omega)
          exact br_f zz ⟨zz, br_f h1 (br_t h3 (Yz _ (fun z => absurd z zl) fun _ => rfl))⟩
    · exact br_f h1 (br_f h3 (br_f h1 (br_f h3 ⟨rfl, R⟩)))
def qq_sv (f : Nat → Int32) : Int32 := if qq_rk (qq_D f 4) 3 = qq_rk (qq_D f 3) 3 ∧ qq_D f 3 (qq_rk (qq_D f 3) 3) = qq_D f 4 (qq_rk (qq_D f 3) 3) then 1 else 0
theorem qq_svX {post : Int32 → Prop} {f g : Nat → Int32} (H : qq_ok f) (h : post (qq_sv f)) : wpX_solvable post (f, g) := by
  unfold wpX_solvable
  dsimp only
  unfold qq_sv at h
  have l3 := qq_rk_le (qq_D f 3) 3
  have l4 := qq_rk_le (qq_D f 4) 3
  refine qq_rX (cols := 3) H (by omega) (qq_rX (cols := 4) H (by omega) ?_)
  have d3 := qq_D_le H 3 (qq_rk (qq_D f 3) 3)
  have d4 := qq_D_le H 4 (qq_rk (qq_D f 3) 3)
  by_cases e : qq_rk (qq_D f 4) 3 = qq_rk (qq_D f 3) 3
  · refine br_t (by rw [e]) (qq_DX (cols := 3) H (by omega) l3 (qq_DX (cols := 4) H (by omega) l3 ?_))
    by_cases e2 : qq_D f 3 (qq_rk (qq_D f 3) 3) = qq_D f 4 (qq_rk (qq_D f 3) 3)
    · rw [if_pos ⟨e, e2⟩] at h
      exact br_t (by rw [e2]) h
    · rw [if_neg (fun z => e2 z.2)] at h
      exact br_f (fun z => e2 ((nI_eq (by omega) (by omega)).mp z)) h
  · rw [if_neg (fun z => e z.1)] at h
    exact br_f (fun z => e ((nI_eq (by omega) (by omega)).mp z)) h
theorem qq_svY {post : Int32 → Prop} {f g : Nat → Int32} (H : qq_ok f) (h : post (qq_sv f)) : wpY_solvable post (f, g) := by
  unfold wpY_solvable
  dsimp only
  unfold qq_sv at h
  have l3 := qq_rk_le (qq_D f 3) 3
  have l4 := qq_rk_le (qq_D f 4) 3
  refine qq_rY (cols := 3) H (by omega) (qq_rY (cols := 4) H (by omega) ?_)
  have d3 := qq_D_le H 3 (qq_rk (qq_D f 3) 3)
  have d4 := qq_D_le H 4 (qq_rk (qq_D f 3) 3)
  by_cases e : qq_rk (qq_D f 4) 3 = qq_rk (qq_D f 3) 3
  · refine br_t (by rw [e]) (qq_DY (cols := 3) H (by omega) l3 (qq_DY (cols := 4) H (by omega) l3 ?_))
    by_cases e2 : qq_D f 3 (qq_rk (qq_D f 3) 3) = qq_D f 4 (qq_rk (qq_D f 3) 3)
    · rw [if_pos ⟨e, e2⟩] at h
      exact br_t (by rw [e2]) h
    · rw [if_neg (fun z => e2 z.2)] at h
      exact br_f (fun z => e2 ((nI_eq (by omega) (by omega)).mp z)) h
  · rw [if_neg (fun z => e z.1)] at h
    exact br_f (fun z => e ((nI_eq (by omega) (by omega)).mp z)) h
theorem i_vc_solvable {k : Nat} {u : SX} {v : SY} (I : i_Rel k u v) (hk : k + 4 ≤ 2048) : wpX_solvable (fun r => wpY_solvable (fun r' => r' = r ∧ i_Rel (k + 4) u v) v) u := by
  obtain ⟨f, g, h, rfl, rfl, H⟩ := I
  exact qq_svX H (qq_svY H ⟨rfl, f, g, h, rfl, rfl, H⟩)
/-! only -/
theorem qq_remz (x d : Int32) : x - x / d * d = 0 ↔ qq_na d ∣ qq_na x := by
  have z : (0 : Int32).toInt = 0 := by decide
  unfold qq_na
  rw [irem_eq_mod, Int.natAbs_dvd_natAbs, ← Int32.toInt_inj, Int32.toInt_mod, z]
  exact ⟨fun h => Int.dvd_of_tmod_eq_zero h, fun h => Int.tmod_eq_zero_of_dvd h⟩
theorem qq_gchain (d a b c : Nat) : d = Nat.gcd (Nat.gcd (Nat.gcd (Nat.gcd 0 d) a) b) c ↔ d ∣ a ∧ d ∣ b ∧ d ∣ c := by
  constructor
  · intro h
    have k : d ∣ Nat.gcd (Nat.gcd (Nat.gcd (Nat.gcd 0 d) a) b) c := ⟨1, by rw [Nat.mul_one]; exact h.symm⟩
    simp only [Nat.dvd_gcd_iff] at k
    exact ⟨k.1.1.2, k.1.2, k.2⟩
  · intro ⟨h1, h2, h3⟩
    rw [Nat.gcd_zero_left, Nat.gcd_eq_left h1, Nat.gcd_eq_left h2, Nat.gcd_eq_left h3]
theorem qq_cyc (p1 p2 p3 q1 q2 q3 r1 r2 r3 : Int32) : p3 * (q1 * r2 - q2 * r1) - p1 * (q3 * r2 - q2 * r3) + p2 * (q3 * r1 - q1 * r3) = p1 * (q2 * r3 - q3 * r2) - p2 * (q1 * r3 - q3 * r1) + p3 * (q1 * r2 - q2 * r1) := by grind
theorem qq_ant (p1 p2 p3 q1 q2 q3 r1 r2 r3 : Int32) : p1 * (q3 * r2 - q2 * r3) - p3 * (q1 * r2 - q2 * r1) + p2 * (q1 * r3 - q3 * r1) = -(p1 * (q2 * r3 - q3 * r2) - p2 * (q1 * r3 - q3 * r1) + p3 * (q1 * r2 - q2 * r1)) := by grind
theorem qq_m3_cyc (f : Nat → Int32) : qq_m3 f 3 1 2 = qq_m3 f 1 2 3 := qq_cyc _ _ _ _ _ _ _ _ _
theorem qq_m3_ant (f : Nat → Int32) : qq_m3 f 0 3 2 = -qq_m3 f 0 2 3 := qq_ant _ _ _ _ _ _ _ _ _
theorem qq_na_neg {x : Int32} (h : qq_na x ≤ 5000) : qq_na (-x) = qq_na x := by
  unfold qq_na at h ⊢
  rw [Int32.toInt_neg, Int.bmod_eq_of_le (by omega) (by omega), Int.natAbs_neg]
theorem qq_na_ne {x : Int32} (h : ¬ x = 0) : qq_na x ≠ 0 := by
  intro z
  refine h (Int32.toInt_inj.mp ?_)
  rw [show (0 : Int32).toInt = 0 from by decide]
  exact Int.natAbs_eq_zero.mp z
theorem qq_sv_only {f : Nat → Int32} (H : qq_ok f) (hd : ¬ qq_m3 f 0 1 2 = 0) : qq_sv f = if qq_na (qq_m3 f 0 1 2) ∣ qq_na (qq_m3 f 0 1 3) ∧ qq_na (qq_m3 f 0 1 2) ∣ qq_na (qq_m3 f 0 3 2) ∧ qq_na (qq_m3 f 0 1 2) ∣ qq_na (qq_m3 f 3 1 2) then 1 else 0 := by
  have n0 := qq_na_ne hd
  rw [qq_m3_ant, qq_na_neg (qq_n3 H _ _ _), qq_m3_cyc]
  have e3 : qq_D f 3 3 = Nat.gcd 0 (qq_na (qq_m3 f 0 1 2)) := rfl
  have e4 : qq_D f 4 3 = Nat.gcd (Nat.gcd (Nat.gcd (Nat.gcd 0 (qq_na (qq_m3 f 0 1 2))) (qq_na (qq_m3 f 0 1 3))) (qq_na (qq_m3 f 0 2 3))) (qq_na (qq_m3 f 1 2 3)) := rfl
  have z3 : qq_D f 3 3 ≠ 0 := by rw [e3, Nat.gcd_zero_left]; exact n0
  have z4 : qq_D f 4 3 ≠ 0 := by
    rw [e4]
    intro z
    have a := Nat.eq_zero_of_gcd_eq_zero_left (Nat.eq_zero_of_gcd_eq_zero_left (Nat.eq_zero_of_gcd_eq_zero_left z))
    rw [Nat.gcd_zero_left] at a
    exact n0 a
  have k3 : qq_rk (qq_D f 3) 3 = 3 := if_neg z3
  have k4 : qq_rk (qq_D f 4) 3 = 3 := if_neg z4
  unfold qq_sv
  rw [k3, k4, e3, e4, Nat.gcd_zero_left]
  have q := qq_gchain (qq_na (qq_m3 f 0 1 2)) (qq_na (qq_m3 f 0 1 3)) (qq_na (qq_m3 f 0 2 3)) (qq_na (qq_m3 f 1 2 3))
  rw [Nat.gcd_zero_left] at q
  by_cases c : qq_na (qq_m3 f 0 1 2) ∣ qq_na (qq_m3 f 0 1 3) ∧ qq_na (qq_m3 f 0 1 2) ∣ qq_na (qq_m3 f 0 2 3) ∧ qq_na (qq_m3 f 0 1 2) ∣ qq_na (qq_m3 f 1 2 3)
  · rw [if_pos c, if_pos ⟨rfl, q.mpr c⟩]
  · rw [if_neg c, if_neg (fun z => c (q.mp z.2))]
theorem qq_onlyY {post : Int32 → Prop} {f h : Nat → Int32} {c : Int32} (H : qq_ok f) (hd : ¬ qq_m3 f 0 1 2 = 0) (hY : ∀ (post : Int32 → Prop) (v : SY), post 1 → wpY_isPlace post v c)
    (h1 : (qq_na (qq_m3 f 0 1 2) ∣ qq_na (qq_m3 f 0 1 3) ∧ qq_na (qq_m3 f 0 1 2) ∣ qq_na (qq_m3 f 0 3 2) ∧ qq_na (qq_m3 f 0 1 2) ∣ qq_na (qq_m3 f 3 1 2)) → post ((if c = 0 then qq_m3 f 3 1 2 else if c = 1 then qq_m3 f 0 3 2 else qq_m3 f 0 1 3) / qq_m3 f 0 1 2))
    (h2 : ¬ (qq_na (qq_m3 f 0 1 2) ∣ qq_na (qq_m3 f 0 1 3) ∧ qq_na (qq_m3 f 0 1 2) ∣ qq_na (qq_m3 f 0 3 2) ∧ qq_na (qq_m3 f 0 1 2) ∣ qq_na (qq_m3 f 3 1 2)) → post (-1000000)) : wpY_only post (f, h) c := by
  unfold wpY_only wpY_determinant
  dsimp only
  refine qq_Y3 (c := 0) (d := 1) (e := 2) (by omega) (by omega) (by omega) (hY _ _ (br_f (by decide) (br_f hd (qq_svY H ?_))))
  rw [qq_sv_only H hd]
  by_cases q : qq_na (qq_m3 f 0 1 2) ∣ qq_na (qq_m3 f 0 1 3) ∧ qq_na (qq_m3 f 0 1 2) ∣ qq_na (qq_m3 f 0 3 2) ∧ qq_na (qq_m3 f 0 1 2) ∣ qq_na (qq_m3 f 3 1 2)
  · rw [if_pos q]
    have h1 := h1 q
    refine br_f (by decide) ?_
    by_cases c0 : c = 0
    · rw [if_pos c0] at h1
      exact br_t c0 (qq_Y3 (c := 3) (d := 1) (e := 2) (by omega) (by omega) (by omega) ⟨hd, h1⟩)
    · rw [if_neg c0] at h1
      by_cases c1 : c = 1
      · rw [if_pos c1] at h1
        exact br_f c0 (br_t c1 (qq_Y3 (c := 0) (d := 3) (e := 2) (by omega) (by omega) (by omega) ⟨hd, h1⟩))
      · rw [if_neg c1] at h1
        exact br_f c0 (br_f c1 (qq_Y3 (c := 0) (d := 1) (e := 3) (by omega) (by omega) (by omega) ⟨hd, h1⟩))
  · rw [if_neg q]
    exact br_t rfl (h2 q)
theorem i_vc_only {k : Nat} {u : SX} {v : SY} (I : i_Rel k u v) (hk : k + 4 ≤ 2048) (v1 : Int32) : wpX_only (fun r => wpY_only (fun r' => r' = r ∧ i_Rel (k + 4) u v) v v1) u v1 := by
  obtain ⟨f, g, h, rfl, rfl, H⟩ := I
  have R : i_Rel (k + 4) (f, g) (f, h) := ⟨f, g, h, rfl, rfl, H⟩
  unfold wpX_only
  dsimp only
  rcases qq_place v1 with ⟨hX, hY⟩ | ⟨c, hc, e, hX, hY⟩
  · refine hX _ (br_t rfl ?_)
    unfold wpY_only wpY_determinant
    dsimp only
    exact qq_Y3 (c := 0) (d := 1) (e := 2) (by omega) (by omega) (by omega) (hY _ _ (br_t rfl ⟨rfl, R⟩))
  · clear e
    refine hX _ (br_f (by decide) (qq_X3 (c := 0) (d := 1) (e := 2) (by omega) (by omega) (by omega) ?_))
    by_cases hd : qq_m3 f 0 1 2 = 0
    · refine br_t hd ?_
      unfold wpY_only wpY_determinant
      dsimp only
      exact qq_Y3 (c := 0) (d := 1) (e := 2) (by omega) (by omega) (by omega) (hY _ _ (br_f (by decide) (br_t hd ⟨rfl, R⟩)))
    · refine br_f hd (qq_X3 (c := 3) (d := 1) (e := 2) (by omega) (by omega) (by omega) (qq_X3 (c := 0) (d := 3) (e := 2) (by omega) (by omega) (by omega) (qq_X3 (c := 0) (d := 1) (e := 3) (by omega) (by omega) (by omega) ⟨hd, ?_⟩)))
      have rx := qq_remz (qq_m3 f 3 1 2) (qq_m3 f 0 1 2)
      have ry := qq_remz (qq_m3 f 0 3 2) (qq_m3 f 0 1 2)
      have rz := qq_remz (qq_m3 f 0 1 3) (qq_m3 f 0 1 2)
      refine br_c (fun x => ⟨hd, br_c (fun y => ⟨hd, br_c (fun z => ?_) fun z => qq_onlyY H hd hY (fun q => absurd (rz.mpr q.1) z) fun _ => ⟨rfl, R⟩⟩) fun y => qq_onlyY H hd hY (fun q => absurd (ry.mpr q.2.1) y) fun _ => ⟨rfl, R⟩⟩) fun x => qq_onlyY H hd hY (fun q => absurd (rx.mpr q.2.2) x) fun _ => ⟨rfl, R⟩
      have Q := And.intro (rz.mp z) (And.intro (ry.mp y) (rx.mp x))
      by_cases c0 : v1 = 0
      · exact br_t c0 ⟨hd, qq_onlyY H hd hY (fun _ => ⟨by rw [if_pos c0], R⟩) fun q => absurd Q q⟩
      · by_cases c1 : v1 = 1
        · exact br_f c0 (br_t c1 ⟨hd, qq_onlyY H hd hY (fun _ => ⟨by rw [if_neg c0, if_pos c1], R⟩) fun q => absurd Q q⟩)
        · exact br_f c0 (br_f c1 ⟨hd, qq_onlyY H hd hY (fun _ => ⟨by rw [if_neg c0, if_neg c1], R⟩) fun q => absurd Q q⟩)
end
section
/-! sums below a bound -/
def qq_su (F : Nat → Nat) : Nat → Nat
  | 0 => 0
  | n + 1 => qq_su F n + F n
theorem qq_su_congr {F G : Nat → Nat} : ∀ n, (∀ i, i < n → F i = G i) → qq_su F n = qq_su G n := by
  intro n
  induction n with
  | zero => intro _; rfl
  | succ n ih =>
    intro h
    show qq_su F n + F n = qq_su G n + G n
    rw [ih (fun i hi => h i (by omega)), h n (by omega)]
theorem qq_su_add (F : Nat → Nat) (n : Nat) : ∀ k, qq_su F (n + k) = qq_su F n + qq_su (fun i => F (n + i)) k := by
  intro k
  induction k with
  | zero => rfl
  | succ k ih =>
    show qq_su F (n + k) + F (n + k) = qq_su F n + (qq_su (fun i => F (n + i)) k + F (n + k))
    rw [ih, Nat.add_assoc]
theorem qq_su_mul (F : Nat → Nat) (m : Nat) : ∀ n, qq_su F (m * n) = qq_su (fun j => qq_su (fun i => F (m * j + i)) m) n := by
  intro n
  induction n with
  | zero => rfl
  | succ n ih =>
    rw [Nat.mul_succ, qq_su_add, ih]
    rfl
theorem qq_su_zero : ∀ n, qq_su (fun _ => 0) n = 0 := by
  intro n
  induction n with
  | zero => rfl
  | succ n ih => exact ih
theorem qq_su_plus (F G : Nat → Nat) : ∀ n, qq_su (fun i => F i + G i) n = qq_su F n + qq_su G n := by
  intro n
  induction n with
  | zero => rfl
  | succ n ih =>
    show qq_su (fun i => F i + G i) n + (F n + G n) = qq_su F n + F n + (qq_su G n + G n)
    rw [ih]
    omega
theorem qq_su_comm (P : Nat → Nat → Nat) (n : Nat) : ∀ m, qq_su (fun x => qq_su (fun y => P x y) n) m = qq_su (fun y => qq_su (fun x => P x y) m) n := by
  intro m
  induction m with
  | zero => exact (qq_su_zero n).symm
  | succ m ih =>
    show qq_su (fun x => qq_su (fun y => P x y) n) m + qq_su (fun y => P m y) n = qq_su (fun y => qq_su (fun x => P x y) m + P m y) n
    rw [qq_su_plus, ih]
theorem qq_su_le {F : Nat → Nat} (h : ∀ i, F i ≤ 1) : ∀ n, qq_su F n ≤ n := by
  intro n
  induction n with
  | zero => exact Nat.le_refl _
  | succ n ih =>
    have := h n
    show qq_su F n + F n ≤ n + 1
    omega
theorem qq_su_mono (F : Nat → Nat) {a b : Nat} (h : a ≤ b) : qq_su F a ≤ qq_su F b := by
  obtain ⟨k, rfl⟩ : ∃ k, b = a + k := ⟨b - a, by omega⟩
  rw [qq_su_add]
  omega
theorem qq_su_tail {F : Nat → Nat} {a b : Nat} (h : a ≤ b) (hz : ∀ i, a ≤ i → F i = 0) : qq_su F b = qq_su F a := by
  obtain ⟨k, rfl⟩ : ∃ k, b = a + k := ⟨b - a, by omega⟩
  rw [qq_su_add, qq_su_congr (G := fun _ => 0) k (fun i _ => hz _ (by omega)), qq_su_zero]
  omega
theorem qq_su_one {F G : Nat → Nat} {c : Nat} (hc : F c = G c + 1) (ho : ∀ i, i ≠ c → F i = G i) : ∀ n, c < n → qq_su F n = qq_su G n + 1 := by
  intro n
  induction n with
  | zero => intro h; omega
  | succ n ih =>
    intro h
    show qq_su F n + F n = qq_su G n + G n + 1
    by_cases e : n = c
    · subst e
      rw [qq_su_congr n (fun i hi => ho i (by omega)), hc]
      omega
    · rw [ih (by omega), ho n e]
      omega
/-! the digits of a number -/
theorem qq_dm {m a b : Nat} (h : a < m) : (m * b + a) % m = a := by
  rw [Nat.mul_add_mod, Nat.mod_eq_of_lt h]
theorem qq_dd {m a b : Nat} (h : a < m) : (m * b + a) / m = b := by
  have h0 : 0 < m := by omega
  rw [Nat.mul_add_div h0, Nat.div_eq_of_lt h, Nat.add_zero]
theorem qq_tri (C : Nat → Nat → Nat → Nat) (m : Nat) : qq_su (fun l => C (l % m) (l / m % m) (l / m / m)) (m * m * m) = qq_su (fun z => qq_su (fun y => qq_su (fun x => C x y z) m) m) m := by
  rw [Nat.mul_assoc, qq_su_mul, qq_su_mul]
  refine qq_su_congr m (fun z hz => qq_su_congr m (fun y hy => qq_su_congr m (fun x hx => ?_)))
  rw [qq_dm hx, qq_dd hx, qq_dm hy, qq_dd hy]
theorem qq_tri' (C : Nat → Nat → Nat → Nat) (m : Nat) : qq_su (fun z => qq_su (fun y => qq_su (fun x => C x y z) m) m) m = qq_su (fun x => qq_su (fun y => qq_su (fun z => C x y z) m) m) m := by
  rw [qq_su_congr m (fun z _ => qq_su_comm (fun y x => C x y z) m m)]
  rw [qq_su_comm (fun z x => qq_su (fun y => C x y z) m) m m]
  exact qq_su_congr m (fun x _ => qq_su_comm (fun z y => C x y z) m m)
end
section
/-! solvableBy, nullCount, firstFailure -/
def qq_rs (f : Nat → Int32) (r x y z : Nat) : Int32 := f (r * 4) * nI x + f (r * 4 + 1) * nI y + f (r * 4 + 2) * nI z
def qq_ex (f : Nat → Int32) (t r x y z : Nat) : Int32 := qq_rs f r x y z - (if t = 0 then 0 else f (r * 4 + 3))
def qq_row (f : Nat → Int32) (t m r x y z : Nat) : Prop := qq_ex f t r x y z - qq_ex f t r x y z / nI m * nI m = 0
def qq_P (f : Nat → Int32) (t m x y z : Nat) : Prop := qq_row f t m 0 x y z ∧ qq_row f t m 1 x y z ∧ qq_row f t m 2 x y z
theorem qq_ix0 (r : Nat) : nI r * 4 = nI (r * 4) := pk_mul r 4
theorem qq_iy0 (r : Nat) : 4 * nI r = nI (r * 4) := by rw [show (4 : Int32) = nI 4 from rfl, pk_mul, Nat.mul_comm]
theorem qq_ixk (r k : Nat) : nI (r * 4) + nI k = nI (r * 4 + k) := nI_add _ _
theorem qq_rsX {post : Int32 → Prop} {f g : Nat → Int32} {r x y z : Nat} (hr : r < 3) (h : post (qq_rs f r x y z)) : wpX_rowSum post (f, g) (nI r) (nI x) (nI y) (nI z) := by
  have e1 : nI (r * 4) + 1 = nI (r * 4 + 1) := nI_1 _
  have e2 : nI (r * 4) + 2 = nI (r * 4 + 2) := nI_add _ 2
  unfold wpX_rowSum
  dsimp only
  rw [qq_ix0, e1, e2, nI_clamp (by omega), nI_clamp (by omega), nI_clamp (by omega)]
  exact ⟨vp_in_nI (by omega) (by omega), vp_in_nI (by omega) (by omega), vp_in_nI (by omega) (by omega), h⟩
theorem qq_rsY {post : Int32 → Prop} {f g : Nat → Int32} {r l m : Nat} (hr : r < 3) (hl : l < 2 ^ 31) (h0 : 0 < m) (hm : m < 2 ^ 31) (h : post (qq_rs f r (l % m) (l / m % m) (l / m / m))) : wpY_sum post (f, g) (nI r) (nI l) (nI m) := by
  have e1 : nI (r * 4) + 1 = nI (r * 4 + 1) := nI_1 _
  have e2 : nI (r * 4) + 2 = nI (r * 4 + 2) := nI_add _ 2
  have hq : l / m < 2 ^ 31 := Nat.lt_of_le_of_lt (Nat.div_le_self l m) hl
  have hz : ¬ nI m = 0 := nI_ne0 h0 hm
  unfold wpY_sum
  dsimp only
  rw [qq_iy0, e1, e2, nI_clamp (by omega), nI_clamp (by omega), nI_clamp (by omega), pk_rem hl h0 hm, pk_div hl h0 hm, pk_rem hq h0 hm, pk_div hq h0 hm]
  exact ⟨vp_in_nI (by omega) (by omega), hz, vp_in_nI (by omega) (by omega), hz, hz, vp_in_nI (by omega) (by omega), hz, hz, h⟩
theorem qq_tm {t : Nat} (ht : t ≤ 1) (b : Int32) : nI t * b = if t = 0 then 0 else b := by
  match t, ht with
  | 0, _ => exact Int32.zero_mul
  | 1, _ => exact Int32.one_mul b
theorem qq_isXs {post : Int32 → Prop} {f g : Nat → Int32} {x y z m t n r : Nat} (hr : r < 3) (h0 : 0 < m) (hm : m < 2 ^ 31) (ht : t ≤ 1) (h1 : qq_row f t m r x y z → wX_isSolution_3 post (nI x) (nI y) (nI z) (nI m) (nI t) f g n (nI (r + 1))) (h2 : ¬ qq_row f t m r x y z → post 0) : wX_isSolution_3 post (nI x) (nI y) (nI z) (nI m) (nI t) f g (n + 1) (nI r) := by
  have e3 : nI r * 4 + 3 = nI (r * 4 + 3) := qq_ix r 3
  refine br_f (nI_ge (b := 3) hr (by omega)) (qq_rsX hr ?_)
  rw [e3, nI_clamp (by omega), qq_tm ht, nI_1]
  exact ⟨vp_in_nI (by omega) (by omega), nm_e ⟨nI_ne0 h0 hm, br_c (fun q => nm_e (h1 q)) h2⟩⟩
theorem qq_isX {post : Int32 → Prop} {f g : Nat → Int32} {x y z m t : Nat} (h0 : 0 < m) (hm : m < 2 ^ 31) (ht : t ≤ 1) (h1 : qq_P f t m x y z → post 1) (h2 : ¬ qq_P f t m x y z → post 0) : wpX_isSolution post (f, g) (nI x) (nI y) (nI z) (nI m) (nI t) := by
  refine ⟨4, qq_isXs (r := 0) (by omega) h0 hm ht (fun a => qq_isXs (r := 1) (by omega) h0 hm ht (fun b => qq_isXs (r := 2) (by omega) h0 hm ht (fun c => br_t (by decide) (h1 ⟨a, b, c⟩)) fun c => h2 fun q => c q.2.2) fun b => h2 fun q => b q.2.1) fun a => h2 fun q => a q.1⟩
theorem qq_isYs {post : Int32 → Prop} {f g : Nat → Int32} {l m t n r : Nat} (hr : r < 3) (hl : l < 2 ^ 31) (h0 : 0 < m) (hm : m < 2 ^ 31) (ht : t ≤ 1) (h1 : qq_row f t m r (l % m) (l / m % m) (l / m / m) → wY_fits_3 post (nI l) (nI m) (nI (1 - t)) f g n (nI (r + 1))) (h2 : ¬ qq_row f t m r (l % m) (l / m % m) (l / m / m) → post 0) : wY_fits_3 post (nI l) (nI m) (nI (1 - t)) f g (n + 1) (nI r) := by
  have e3 : 4 * nI r + 3 = nI (r * 4 + 3) := qq_iy r 3
  refine br_f (nI_ge (b := 3) hr (by omega)) (qq_rsY hr hl h0 hm ?_)
  rw [e3, nI_clamp (by omega)]
  match t, ht with
  | 0, _ => exact br_f (by decide) ⟨nI_ne0 h0 hm, br_c (fun q => nm_r (nI_1 r) (h1 q)) h2⟩
  | 1, _ => exact br_t rfl ⟨vp_in_nI (by omega) (by omega), nI_ne0 h0 hm, br_c (fun q => nm_r (nI_1 r) (h1 q)) h2⟩
theorem qq_isY {post : Int32 → Prop} {f g : Nat → Int32} {l m t : Nat} (hl : l < 2 ^ 31) (h0 : 0 < m) (hm : m < 2 ^ 31) (ht : t ≤ 1) (h1 : qq_P f t m (l % m) (l / m % m) (l / m / m) → post 1) (h2 : ¬ qq_P f t m (l % m) (l / m % m) (l / m / m) → post 0) : wpY_fits post (f, g) (nI l) (nI m) (nI (1 - t)) := by
  refine ⟨4, qq_isYs (r := 0) (by omega) hl h0 hm ht (fun a => qq_isYs (r := 1) (by omega) hl h0 hm ht (fun b => qq_isYs (r := 2) (by omega) hl h0 hm ht (fun c => br_t (by decide) (h1 ⟨a, b, c⟩)) fun c => h2 fun q => c q.2.2) fun b => h2 fun q => b q.2.1) fun a => h2 fun q => a q.1⟩
noncomputable def qq_C (f : Nat → Int32) (t m x y z : Nat) : Nat := @ite _ (qq_P f t m x y z) (Classical.propDecidable _) 1 0
theorem qq_C1 {f : Nat → Int32} {t m x y z : Nat} (h : qq_P f t m x y z) : qq_C f t m x y z = 1 := if_pos h
theorem qq_C0 {f : Nat → Int32} {t m x y z : Nat} (h : ¬ qq_P f t m x y z) : qq_C f t m x y z = 0 := if_neg h
theorem qq_Cle (f : Nat → Int32) (t m x y z : Nat) : qq_C f t m x y z ≤ 1 := by
  by_cases h : qq_P f t m x y z
  · rw [qq_C1 h]; omega
  · rw [qq_C0 h]; omega
/-! X's count -/
theorem qq_cX23 {post : Int32 → Prop} {J5 J14 : Int32 → Int32 → Prop} {f g : Nat → Int32} {m t x y b : Nat} (h0 : 0 < m) (hm : m < 2 ^ 31) (ht : t ≤ 1) (h : J14 (nI (b + qq_su (fun z => qq_C f t m x y z) m)) (nI (y + 1))) : ∀ k z n, z + k = m → k < n → wX_countSolutions_23 post J5 J14 (nI m) (nI t) (nI x) (nI y) f g n (nI (b + qq_su (fun z => qq_C f t m x y z) z)) (nI z) := by
  intro k
  induction k with
  | zero =>
    intro z n hz hn
    obtain ⟨n, rfl⟩ : ∃ q, n = q + 1 := ⟨n - 1, by omega⟩
    obtain rfl : z = m := by omega
    exact br_t (Int32.le_refl _) (nm_r (nI_1 y) h)
  | succ k ih =>
    intro z n hz hn
    obtain ⟨n, rfl⟩ : ∃ q, n = q + 1 := ⟨n - 1, by omega⟩
    have nx := ih (z + 1) n (by omega) (by omega)
    have e : qq_su (fun z => qq_C f t m x y z) (z + 1) = qq_su (fun z => qq_C f t m x y z) z + qq_C f t m x y z := rfl
    rw [e] at nx
    refine br_f (nI_ge (by omega) (by omega)) (qq_isX h0 hm ht (fun p => br_f (by decide) (nm_r (nI_1 _) (nm_r (nI_1 z) ?_))) fun p => br_t rfl (nm_r (nI_1 z) ?_))
    · rw [qq_C1 p] at nx
      exact nx
    · rw [qq_C0 p] at nx
      exact nx
theorem qq_cX14 {post : Int32 → Prop} {J5 : Int32 → Int32 → Prop} {f g : Nat → Int32} {m t x b : Nat} (h0 : 0 < m) (hm : m < 2 ^ 31) (ht : t ≤ 1) (h : J5 (nI (b + qq_su (fun y => qq_su (fun z => qq_C f t m x y z) m) m)) (nI (x + 1))) : ∀ k y n, y + k = m → k < n → wX_countSolutions_14 post J5 (nI m) (nI t) (nI x) f g n (nI (b + qq_su (fun y => qq_su (fun z => qq_C f t m x y z) m) y)) (nI y) := by
  intro k
  induction k with
  | zero =>
    intro y n hy hn
    obtain ⟨n, rfl⟩ : ∃ q, n = q + 1 := ⟨n - 1, by omega⟩
    obtain rfl : y = m := by omega
    exact br_t (Int32.le_refl _) (nm_r (nI_1 x) h)
  | succ k ih =>
    intro y n hy hn
    obtain ⟨n, rfl⟩ : ∃ q, n = q + 1 := ⟨n - 1, by omega⟩
    have nx := ih (y + 1) n (by omega) (by omega)
    have e : qq_su (fun y => qq_su (fun z => qq_C f t m x y z) m) (y + 1) = qq_su (fun y => qq_su (fun z => qq_C f t m x y z) m) y + qq_su (fun z => qq_C f t m x y z) m := rfl
    rw [e, ← Nat.add_assoc] at nx
    exact br_f (nI_ge (by omega) (by omega)) ⟨m + 1, qq_cX23 h0 hm ht nx m 0 (m + 1) (by omega) (by omega)⟩
theorem qq_cX5 {post : Int32 → Prop} {f g : Nat → Int32} {m t : Nat} (h0 : 0 < m) (hm : m < 2 ^ 31) (ht : t ≤ 1) (h : post (nI (qq_su (fun x => qq_su (fun y => qq_su (fun z => qq_C f t m x y z) m) m) m))) : ∀ k x n, x + k = m → k < n → wX_countSolutions_5 post (nI m) (nI t) f g n (nI (qq_su (fun x => qq_su (fun y => qq_su (fun z => qq_C f t m x y z) m) m) x)) (nI x) := by
  intro k
  induction k with
  | zero =>
    intro x n hx hn
    obtain ⟨n, rfl⟩ : ∃ q, n = q + 1 := ⟨n - 1, by omega⟩
    obtain rfl : x = m := by omega
    exact br_t (Int32.le_refl _) h
  | succ k ih =>
    intro x n hx hn
    obtain ⟨n, rfl⟩ : ∃ q, n = q + 1 := ⟨n - 1, by omega⟩
    have nx := ih (x + 1) n (by omega) (by omega)
    exact br_f (nI_ge (by omega) (by omega)) ⟨m + 1, qq_cX14 h0 hm ht nx m 0 (m + 1) (by omega) (by omega)⟩
noncomputable def qq_N (f : Nat → Int32) (t m : Nat) : Nat := qq_su (fun l => qq_C f t m (l % m) (l / m % m) (l / m / m)) (m * m * m)
theorem qq_cX {post : Int32 → Prop} {f g : Nat → Int32} {m t : Nat} (h0 : 0 < m) (hm : m < 2 ^ 31) (ht : t ≤ 1) (h : post (nI (qq_N f t m))) : wpX_countSolutions post (f, g) (nI m) (nI t) := by
  unfold qq_N at h
  rw [qq_tri, qq_tri'] at h
  exact ⟨m + 1, qq_cX5 h0 hm ht h m 0 (m + 1) (by omega) (by omega)⟩
theorem qq_cube {m : Nat} (hm : m ≤ 12) : m * m * m ≤ 1728 := Nat.mul_le_mul (Nat.mul_le_mul hm hm) hm
theorem qq_N_le (f : Nat → Int32) (t : Nat) {m : Nat} (hm : m ≤ 12) : qq_N f t m ≤ 1728 :=
  Nat.le_trans (qq_su_le (fun _ => qq_Cle _ _ _ _ _ _) _) (qq_cube hm)
theorem qq_mmm (m : Nat) : nI m * nI m * nI m = nI (m * m * m) := by rw [pk_mul, pk_mul]
theorem qq_nY18 {post : Int32 → Prop} {f g : Nat → Int32} {m : Nat} (h0 : 0 < m) (hm : m ≤ 12) (h : post (nI (qq_N f 0 m))) : ∀ k l n, l + k = m * m * m → k < n → wY_nullCount_18 post (nI m) f g n (nI (qq_su (fun l => qq_C f 0 m (l % m) (l / m % m) (l / m / m)) l)) (nI l) := by
  have hM := qq_cube hm
  generalize eM : m * m * m = M at hM
  intro k
  induction k with
  | zero =>
    intro l n hl hn
    obtain ⟨n, rfl⟩ : ∃ q, n = q + 1 := ⟨n - 1, by omega⟩
    obtain rfl : l = M := by omega
    subst eM
    exact br_t (by rw [qq_mmm]; exact Int32.le_refl _) h
  | succ k ih =>
    intro l n hl hn
    obtain ⟨n, rfl⟩ : ∃ q, n = q + 1 := ⟨n - 1, by omega⟩
    have nx := ih (l + 1) n (by omega) (by omega)
    have e : qq_su (fun l => qq_C f 0 m (l % m) (l / m % m) (l / m / m)) (l + 1) = qq_su (fun l => qq_C f 0 m (l % m) (l / m % m) (l / m / m)) l + qq_C f 0 m (l % m) (l / m % m) (l / m / m) := rfl
    rw [e] at nx
    refine br_f (by rw [qq_mmm, eM]; exact nI_ge (by omega) (by omega)) (qq_isY (t := 0) (by omega) h0 (by omega) (by omega) (fun p => br_f (by decide) (nm_r (nI_1 _) (nm_r (nI_1 l) ?_))) fun p => br_t rfl (nm_r (nI_1 l) ?_))
    · rw [qq_C1 p] at nx
      exact nx
    · rw [qq_C0 p] at nx
      exact nx
theorem qq_mod (x : Int32) : ((∀ post : Int32 → Prop, post 0 → wpX_isModulus post x) ∧ ∀ A B : Prop, A → ((x < 1 → A) ∧ (¬ x < 1 → ((x ≤ 12 → B) ∧ (¬ x ≤ 12 → A))))) ∨ (∃ m, 0 < m ∧ m ≤ 12 ∧ x = nI m ∧ (∀ post : Int32 → Prop, post 1 → wpX_isModulus post x) ∧ ∀ A B : Prop, B → ((x < 1 → A) ∧ (¬ x < 1 → ((x ≤ 12 → B) ∧ (¬ x ≤ 12 → A))))) := by
  by_cases h1 : x < 1
  · exact Or.inl ⟨fun _ p => br_t h1 p, fun _ _ a => br_t h1 a⟩
  · by_cases h2 : x ≤ 12
    · refine Or.inr ?_
      rcases pk_ix x (n := 13) (by omega) with q | q | ⟨j, hj, rfl⟩
      · exact absurd (Int32.lt_trans q (by decide)) h1
      · exact absurd (Int32.le_trans q h2) (by decide)
      · have : j ≠ 0 := fun e => h1 (by rw [e]; decide)
        exact ⟨j, by omega, by omega, rfl, fun _ p => br_f h1 (br_f (Int32.not_lt.mpr h2) p), fun _ _ b => br_f h1 (br_t h2 b)⟩
    · exact Or.inl ⟨fun _ p => br_f h1 (br_t (Int32.not_le.mp h2) p), fun _ _ a => br_f h1 (br_f h2 a)⟩
theorem i_vc_nullCount {k : Nat} {u : SX} {v : SY} (I : i_Rel k u v) (hk : k + 4 ≤ 2048) (v1 : Int32) : wpX_nullCount (fun r => wpY_nullCount (fun r' => r' = r ∧ i_Rel (k + 4) u v) v v1) u v1 := by
  obtain ⟨f, g, h, rfl, rfl, H⟩ := I
  have R : i_Rel (k + 4) (f, g) (f, h) := ⟨f, g, h, rfl, rfl, H⟩
  unfold wpX_nullCount wpY_nullCount
  dsimp only
  rcases qq_mod v1 with ⟨hX, hY⟩ | ⟨m, h0, hm, rfl, hX, hY⟩
  · exact hX _ (br_t rfl (hY _ _ ⟨rfl, R⟩))
  · exact hX _ (br_f (by decide) (qq_cX (t := 0) h0 (by omega) (by omega) (hY _ _ ⟨m * m * m + 1, qq_nY18 h0 hm ⟨rfl, R⟩ (m * m * m) 0 _ (by omega) (by omega)⟩)))
noncomputable def qq_sb (f : Nat → Int32) (m : Nat) : Int32 := if qq_N f 1 m = 0 then 0 else 1
theorem qq_sbX {post : Int32 → Prop} {f g : Nat → Int32} {m : Nat} (h0 : 0 < m) (hm : m ≤ 12) (hX : ∀ post : Int32 → Prop, post 1 → wpX_isModulus post (nI m)) (h : post (qq_sb f m)) : wpX_solvableBy post (f, g) (nI m) := by
  unfold wpX_solvableBy
  dsimp only
  refine hX _ (br_f (by decide) (qq_cX (t := 1) h0 (by omega) (by omega) ?_))
  have l := qq_N_le f 1 hm
  unfold qq_sb at h
  by_cases z : qq_N f 1 m = 0
  · rw [if_pos z] at h
    exact br_t (by rw [z]; decide) h
  · rw [if_neg z] at h
    exact br_f (nI_nle (by omega) (by omega)) h
theorem qq_sbY16 {post : Int32 → Prop} {f g : Nat → Int32} {m : Nat} (h0 : 0 < m) (hm : m ≤ 12) (h : post (qq_sb f m)) : ∀ k l n, l + k = m * m * m → k < n → qq_su (fun l => qq_C f 1 m (l % m) (l / m % m) (l / m / m)) l = 0 → wY_solvableBy_16 post (nI m) f g n (nI l) := by
  have hM := qq_cube hm
  have hs : ∀ l, l ≤ m * m * m → qq_su (fun l => qq_C f 1 m (l % m) (l / m % m) (l / m / m)) l ≤ qq_N f 1 m := fun l hl => qq_su_mono _ hl
  have hN : qq_N f 1 m = qq_su (fun l => qq_C f 1 m (l % m) (l / m % m) (l / m / m)) (m * m * m) := rfl
  unfold qq_sb at h
  generalize eM : m * m * m = M at hM hs hN
  intro k
  induction k with
  | zero =>
    intro l n hl hn hz
    obtain ⟨n, rfl⟩ : ∃ q, n = q + 1 := ⟨n - 1, by omega⟩
    obtain rfl : l = M := by omega
    rw [if_pos (hN.trans hz)] at h
    exact br_t (by rw [qq_mmm, eM]; exact Int32.le_refl _) h
  | succ k ih =>
    intro l n hl hn hz
    obtain ⟨n, rfl⟩ : ∃ q, n = q + 1 := ⟨n - 1, by omega⟩
    have nx := ih (l + 1) n (by omega) (by omega)
    have ls := hs (l + 1) (by omega)
    have e : qq_su (fun l => qq_C f 1 m (l % m) (l / m % m) (l / m / m)) (l + 1) = qq_su (fun l => qq_C f 1 m (l % m) (l / m % m) (l / m / m)) l + qq_C f 1 m (l % m) (l / m % m) (l / m / m) := rfl
    rw [e, hz] at nx ls
    refine br_f (by rw [qq_mmm, eM]; exact nI_ge (by omega) (by omega)) (qq_isY (t := 1) (by omega) h0 (by omega) (by omega) (fun p => br_f (by decide) ?_) fun p => br_t rfl (nm_r (nI_1 l) ?_))
    · rw [qq_C1 p] at ls
      rw [if_neg (by omega)] at h
      exact h
    · rw [qq_C0 p] at nx
      exact nx rfl
theorem qq_sbY {post : Int32 → Prop} {f g : Nat → Int32} {m : Nat} (h0 : 0 < m) (hm : m ≤ 12) (hY : ∀ A B : Prop, B → ((nI m < 1 → A) ∧ (¬ nI m < 1 → ((nI m ≤ 12 → B) ∧ (¬ nI m ≤ 12 → A))))) (h : post (qq_sb f m)) : wpY_solvableBy post (f, g) (nI m) :=
  hY _ _ ⟨m * m * m + 1, qq_sbY16 h0 hm h (m * m * m) 0 _ (by omega) (by omega) rfl⟩
theorem i_vc_solvableBy {k : Nat} {u : SX} {v : SY} (I : i_Rel k u v) (hk : k + 4 ≤ 2048) (v1 : Int32) : wpX_solvableBy (fun r => wpY_solvableBy (fun r' => r' = r ∧ i_Rel (k + 4) u v) v v1) u v1 := by
  obtain ⟨f, g, h, rfl, rfl, H⟩ := I
  have R : i_Rel (k + 4) (f, g) (f, h) := ⟨f, g, h, rfl, rfl, H⟩
  rcases qq_mod v1 with ⟨hX, hY⟩ | ⟨m, h0, hm, rfl, hX, hY⟩
  · unfold wpX_solvableBy wpY_solvableBy
    dsimp only
    exact hX _ (br_t rfl (hY _ _ ⟨rfl, R⟩))
  · exact qq_sbX h0 hm hX (qq_sbY h0 hm hY ⟨rfl, R⟩)
theorem qq_modm {m : Nat} (h0 : 0 < m) (hm : m ≤ 12) : (∀ post : Int32 → Prop, post 1 → wpX_isModulus post (nI m)) ∧ ∀ A B : Prop, B → ((nI m < 1 → A) ∧ (¬ nI m < 1 → ((nI m ≤ 12 → B) ∧ (¬ nI m ≤ 12 → A)))) := by
  have h1 : ¬ nI m < 1 := nI_nlt (b := 1) h0 (by omega)
  have h2 : nI m ≤ 12 := nI_le (b := 12) hm (by omega)
  exact ⟨fun _ p => br_f h1 (br_f (Int32.not_lt.mpr h2) p), fun _ _ b => br_f h1 (br_t h2 b)⟩
theorem qq_ff (f g h : Nat → Int32) : ∀ k m, m + k = 13 → 0 < m → ∃ r : Int32, (∀ post : Int32 → Prop, post r → wX_firstFailure_2 post f g (k + 1) (nI m)) ∧ (∀ post : Int32 → Prop, post r → wY_firstFailure_2 post f h (k + 1) (nI m)) := by
  intro k
  induction k with
  | zero =>
    intro m hm h0
    have l : (12 : Int32) < nI m := nI_lt (a := 12) (by omega) (by omega)
    exact ⟨0, fun _ p => br_t l p, fun _ p => br_t l p⟩
  | succ k ih =>
    intro m hm h0
    have l : ¬ (12 : Int32) < nI m := nI_nlt (a := 12) (by omega) (by omega)
    obtain ⟨hX, hY⟩ := qq_modm h0 (m := m) (by omega)
    by_cases z : qq_sb f m = 0
    · exact ⟨nI m, fun _ p => br_f l (qq_sbX h0 (by omega) hX (br_t z p)), fun _ p => br_f l (qq_sbY h0 (by omega) hY (br_t z p))⟩
    · obtain ⟨r, rX, rY⟩ := ih (m + 1) (by omega) (by omega)
      exact ⟨r, fun _ p => br_f l (qq_sbX h0 (by omega) hX (br_f z (nm_r (nI_1 m) (rX _ p)))), fun _ p => br_f l (qq_sbY h0 (by omega) hY (br_f z (nm_r (nI_1 m) (rY _ p))))⟩
theorem i_vc_firstFailure {k : Nat} {u : SX} {v : SY} (I : i_Rel k u v) (hk : k + 4 ≤ 2048) : wpX_firstFailure (fun r => wpY_firstFailure (fun r' => r' = r ∧ i_Rel (k + 4) u v) v) u := by
  obtain ⟨f, g, h, rfl, rfl, H⟩ := I
  obtain ⟨r, rX, rY⟩ := qq_ff f g h 12 1 (by omega) (by omega)
  exact ⟨13, rX _ ⟨13, rY _ ⟨rfl, f, g, h, rfl, rfl, H⟩⟩⟩
end
section
/-! imageCount -/
def qq_rest (v : Int32) (m : Nat) : Nat := (v.toInt % (m : Int)).toNat
theorem qq_rest_lt (v : Int32) {m : Nat} (h0 : 0 < m) : qq_rest v m < m := by
  have a := Int.emod_nonneg v.toInt (b := (m : Int)) (by omega)
  have b := Int.emod_lt_of_pos v.toInt (b := (m : Int)) (by omega)
  unfold qq_rest
  omega
theorem qq_tm_em (a : Int) {m : Int} (h0 : 0 < m) : (0 ≤ a.tmod m → a.tmod m = a % m) ∧ (a.tmod m < 0 → a.tmod m + m = a % m) ∧ -m < a.tmod m ∧ a.tmod m < m := by
  have b1 := Int.lt_tmod_of_pos a h0
  have b2 := Int.tmod_lt_of_pos a h0
  have e1 := Int.emod_nonneg a (b := m) (by omega)
  have e2 := Int.emod_lt_of_pos a h0
  have d1 := Int.mul_tdiv_add_tmod a m
  have d2 := Int.mul_ediv_add_emod a m
  have key : ∀ k : Int, a.tmod m - a % m = m * k → -m < a.tmod m - a % m + m → a.tmod m - a % m < m → a.tmod m - a % m = 0 ∨ a.tmod m - a % m = -m := by
    intro k hk h1 h2
    rcases (by omega : k ≤ -2 ∨ k = -1 ∨ k = 0 ∨ 1 ≤ k) with q | q | q | q
    · have := Int.mul_le_mul_of_nonneg_left q (by omega : 0 ≤ m)
      omega
    · subst q; right; omega
    · subst q; left; omega
    · have := Int.mul_le_mul_of_nonneg_left q (by omega : 0 ≤ m)
      omega
  have kk := key (a / m - a.tdiv m) (by rw [Int.mul_sub]; omega) (by omega) (by omega)
  refine ⟨fun h => ?_, fun h => ?_, b1, b2⟩ <;> omega
theorem qq_remI (v : Int32) {m : Nat} (hm : m < 2 ^ 31) : (v - v / nI m * nI m).toInt = v.toInt.tmod m := by
  rw [irem_eq_mod, Int32.toInt_mod, nI_toInt hm]
theorem qq_rX1 (v : Int32) {m : Nat} (h0 : 0 < m) (hm : m ≤ 12) (h : 0 ≤ v - v / nI m * nI m) : v - v / nI m * nI m = nI (qq_rest v m) := by
  have l := qq_rest_lt v h0
  have q := qq_tm_em v.toInt (m := (m : Int)) (by omega)
  have z := Int32.le_iff_toInt_le.mp h
  rw [qq_remI v (by omega), show (0 : Int32).toInt = 0 from by decide] at z
  refine Int32.toInt_inj.mp ?_
  rw [qq_remI v (by omega), nI_toInt (by omega)]
  have := q.1 z
  unfold qq_rest
  omega
theorem qq_rX2 (v : Int32) {m : Nat} (h0 : 0 < m) (hm : m ≤ 12) (h : ¬ 0 ≤ v - v / nI m * nI m) : v - v / nI m * nI m + nI m = nI (qq_rest v m) := by
  have l := qq_rest_lt v h0
  have q := qq_tm_em v.toInt (m := (m : Int)) (by omega)
  have z := Int32.lt_iff_toInt_lt.mp (Int32.not_le.mp h)
  rw [qq_remI v (by omega), show (0 : Int32).toInt = 0 from by decide] at z
  refine Int32.toInt_inj.mp ?_
  rw [Int32.toInt_add, qq_remI v (by omega), nI_toInt (by omega), nI_toInt (by omega), Int.bmod_eq_of_le (by omega) (by omega)]
  have := q.2.1 z
  unfold qq_rest
  omega
theorem qq_rY1 (v : Int32) {m : Nat} (h0 : 0 < m) (hm : m ≤ 12) : v - v / nI m * nI m + nI m - (v - v / nI m * nI m + nI m) / nI m * nI m = nI (qq_rest v m) := by
  have l := qq_rest_lt v h0
  by_cases h : 0 ≤ v - v / nI m * nI m
  · rw [qq_rX1 v h0 hm h, nI_add, pk_rem (by omega) h0 (by omega), Nat.add_mod_right, Nat.mod_eq_of_lt l]
  · rw [qq_rX2 v h0 hm h, pk_rem (by omega) h0 (by omega), Nat.mod_eq_of_lt l]
def qq_a (f : Nat → Int32) (m r x y z : Nat) : Nat := qq_rest (qq_rs f r x y z) m
theorem qq_a_lt (f : Nat → Int32) {m : Nat} (h0 : 0 < m) (r x y z : Nat) : qq_a f m r x y z < m := qq_rest_lt _ h0
theorem qq_lt2 {a b m n : Nat} (ha : a < n) (hb : b < m) : m * a + b < m * n := by
  have : m * (a + 1) ≤ m * n := Nat.mul_le_mul_left m ha
  rw [Nat.mul_succ] at this
  omega
/-! X's number of an image -/
def qq_kX (f : Nat → Int32) (m x y z : Nat) : Nat := m * (m * qq_a f m 0 x y z + qq_a f m 1 x y z) + qq_a f m 2 x y z
theorem qq_kX_lt (f : Nat → Int32) {m : Nat} (h0 : 0 < m) (x y z : Nat) : qq_kX f m x y z < m * m * m := by
  rw [Nat.mul_assoc]
  exact qq_lt2 (qq_lt2 (qq_a_lt f h0 _ _ _ _) (qq_a_lt f h0 _ _ _ _)) (qq_a_lt f h0 _ _ _ _)
theorem qq_inXs {post : Int32 → Prop} {f g : Nat → Int32} {x y z m n r q : Nat} (hr : r < 3) (h0 : 0 < m) (hm : m ≤ 12) (h : wX_imageNumber_6 post (nI x) (nI y) (nI z) (nI m) f g n (nI (m * q + qq_a f m r x y z)) (nI (r + 1))) : wX_imageNumber_6 post (nI x) (nI y) (nI z) (nI m) f g (n + 1) (nI q) (nI r) := by
  have e : nI q * nI m + nI (qq_a f m r x y z) = nI (m * q + qq_a f m r x y z) := by rw [pk_mul, nI_add, Nat.mul_comm]
  refine br_f (nI_ge (b := 3) hr (by omega)) (qq_rsX hr ⟨nI_ne0 h0 (by omega), nm_e (br_c (fun p => ?_) fun p => nm_e ?_)⟩)
  · rw [qq_rX1 _ h0 hm p]
    exact nm_r e (nm_r (nI_1 r) h)
  · rw [qq_rX2 _ h0 hm p]
    exact nm_r e (nm_r (nI_1 r) h)
theorem qq_inX {post : Int32 → Prop} {f g : Nat → Int32} {x y z m : Nat} (h0 : 0 < m) (hm : m ≤ 12) (h : post (nI (qq_kX f m x y z))) : wpX_imageNumber post (f, g) (nI x) (nI y) (nI z) (nI m) := by
  refine ⟨4, qq_inXs (r := 0) (q := 0) (by omega) h0 hm (qq_inXs (r := 1) (by omega) h0 hm (qq_inXs (r := 2) (by omega) h0 hm (br_t (by decide) ?_)))⟩
  rw [Nat.mul_zero, Nat.zero_add]
  exact h
/-! folds over tables -/
def qq_fo {σ : Type} (F : σ → Nat → σ) : Nat → Nat → σ → σ
  | 0, _, s => s
  | k + 1, i, s => qq_fo F k (i + 1) (F s i)
theorem qq_fo_K {σ : Type} {F : σ → Nat → σ} {K : σ → Prop} (h : ∀ s i, K s → K (F s i)) : ∀ k i s, K s → K (qq_fo F k i s) := by
  intro k
  induction k with
  | zero => intro i s hs; exact hs
  | succ k ih => intro i s hs; exact ih _ _ (h _ _ hs)
theorem qq_fo_V {σ : Type} {F : σ → Nat → σ} {T : σ → Nat → Prop} {V : Nat → Nat → Prop} (h : ∀ s i j, T (F s i) j ↔ T s j ∨ V i j) : ∀ k i s j, T (qq_fo F k i s) j ↔ T s j ∨ ∃ t, i ≤ t ∧ t < i + k ∧ V t j := by
  intro k
  induction k with
  | zero =>
    intro i s j
    exact ⟨Or.inl, fun q => q.elim id (fun ⟨t, a, b, _⟩ => by omega)⟩
  | succ k ih =>
    intro i s j
    show T (qq_fo F k (i + 1) (F s i)) j ↔ _
    rw [ih, h]
    constructor
    · rintro ((a | a) | ⟨t, a, b, c⟩)
      · exact Or.inl a
      · exact Or.inr ⟨i, by omega, by omega, a⟩
      · exact Or.inr ⟨t, by omega, by omega, c⟩
    · rintro (a | ⟨t, a, b, c⟩)
      · exact Or.inl (Or.inl a)
      · by_cases e : t = i
        · subst e; exact Or.inl (Or.inr c)
        · exact Or.inr ⟨t, by omega, by omega, c⟩
def qq_ind (g : Nat → Int32) (i : Nat) : Nat := if g i = 0 then 0 else 1
def qq_st (s : Nat × (Nat → Int32)) (i : Nat) : Nat × (Nat → Int32) := if s.2 i = 0 then (s.1 + 1, upd s.2 i 1) else s
theorem qq_upd1 (g : Nat → Int32) (i j : Nat) : upd g i 1 j ≠ 0 ↔ g j ≠ 0 ∨ i = j := by
  by_cases e : j = i
  · subst e
    rw [pk_us]
    exact ⟨fun _ => Or.inr rfl, fun _ => by decide⟩
  · rw [pk_un e]
    exact ⟨Or.inl, fun q => q.elim id (fun z => absurd z.symm e)⟩
theorem qq_st_V (s : Nat × (Nat → Int32)) (i j : Nat) : (qq_st s i).2 j ≠ 0 ↔ s.2 j ≠ 0 ∨ i = j := by
  unfold qq_st
  by_cases z : s.2 i = 0
  · rw [if_pos z]
    exact qq_upd1 _ _ _
  · rw [if_neg z]
    exact ⟨Or.inl, fun q => q.elim id (fun e => e ▸ z)⟩
theorem qq_st_K {s : Nat × (Nat → Int32)} {i : Nat} (hi : i < 1728) (h : s.1 = qq_su (qq_ind s.2) 1728) : (qq_st s i).1 = qq_su (qq_ind (qq_st s i).2) 1728 := by
  unfold qq_st
  by_cases z : s.2 i = 0
  · rw [if_pos z]
    show s.1 + 1 = qq_su (qq_ind (upd s.2 i 1)) 1728
    rw [h]
    refine (qq_su_one (c := i) ?_ (fun j hj => ?_) 1728 hi).symm
    · unfold qq_ind
      rw [pk_us, if_pos z, if_neg (by decide)]
    · unfold qq_ind
      rw [pk_un hj]
  · rw [if_neg z]
    exact h
def qq_Z (f : Nat → Int32) (m x y : Nat) (s : Nat × (Nat → Int32)) (z : Nat) : Nat × (Nat → Int32) := qq_st s (qq_kX f m x y z)
def qq_Yf (f : Nat → Int32) (m x : Nat) (s : Nat × (Nat → Int32)) (y : Nat) : Nat × (Nat → Int32) := qq_fo (qq_Z f m x y) m 0 s
def qq_Xf (f : Nat → Int32) (m : Nat) (s : Nat × (Nat → Int32)) (x : Nat) : Nat × (Nat → Int32) := qq_fo (qq_Yf f m x) m 0 s
theorem qq_nb1 : vp_nar .boolean 1 = 1 := by decide
theorem qq_nb0 : vp_nar .boolean 0 = 0 := by decide
theorem qq_iX35 {post : Int32 → SX → Prop} {J18 J26 : Int32 → Int32 → (Nat → Int32) → (Nat → Int32) → Prop} {f : Nat → Int32} {m x y : Nat} (h0 : 0 < m) (hm : m ≤ 12) : ∀ k z s n, z + k = m → k < n → J26 (nI (qq_fo (qq_Z f m x y) k z s).1) (nI (y + 1)) f (qq_fo (qq_Z f m x y) k z s).2 → wX_imageCount_35 post J18 J26 (nI m) (nI x) (nI y) n (nI s.1) (nI z) f s.2 := by
  intro k
  induction k with
  | zero =>
    intro z s n hz hn h
    obtain ⟨n, rfl⟩ : ∃ q, n = q + 1 := ⟨n - 1, by omega⟩
    obtain rfl : z = m := by omega
    exact br_t (Int32.le_refl _) (nm_r (nI_1 y) h)
  | succ k ih =>
    intro z s n hz hn h
    obtain ⟨n, rfl⟩ : ∃ q, n = q + 1 := ⟨n - 1, by omega⟩
    have lt : qq_kX f m x y z < 1728 := Nat.lt_of_lt_of_le (qq_kX_lt f h0 x y z) (qq_cube hm)
    have nx := ih (z + 1) (qq_st s (qq_kX f m x y z)) n (by omega) (by omega) h
    refine br_f (nI_ge (by omega) (by omega)) (qq_inX h0 hm ?_)
    rw [nI_clamp (by omega), qq_nb1, nI_1, nI_1]
    refine ⟨vp_in_nI lt (by omega), ?_⟩
    by_cases e : s.2 (qq_kX f m x y z) = 0
    · have q : qq_st s (qq_kX f m x y z) = (s.1 + 1, upd s.2 (qq_kX f m x y z) 1) := if_pos e
      rw [q] at nx
      exact br_t e ⟨vp_in_nI lt (by omega), nm_e (nm_e (nm_e nx))⟩
    · have q : qq_st s (qq_kX f m x y z) = s := if_neg e
      rw [q] at nx
      exact br_f e (nm_e nx)
theorem qq_iX26 {post : Int32 → SX → Prop} {J18 : Int32 → Int32 → (Nat → Int32) → (Nat → Int32) → Prop} {f : Nat → Int32} {m x : Nat} (h0 : 0 < m) (hm : m ≤ 12) : ∀ k y s n, y + k = m → k < n → J18 (nI (qq_fo (qq_Yf f m x) k y s).1) (nI (x + 1)) f (qq_fo (qq_Yf f m x) k y s).2 → wX_imageCount_26 post J18 (nI m) (nI x) n (nI s.1) (nI y) f s.2 := by
  intro k
  induction k with
  | zero =>
    intro y s n hy hn h
    obtain ⟨n, rfl⟩ : ∃ q, n = q + 1 := ⟨n - 1, by omega⟩
    obtain rfl : y = m := by omega
    exact br_t (Int32.le_refl _) (nm_r (nI_1 x) h)
  | succ k ih =>
    intro y s n hy hn h
    obtain ⟨n, rfl⟩ : ∃ q, n = q + 1 := ⟨n - 1, by omega⟩
    have nx := ih (y + 1) (qq_Yf f m x s y) n (by omega) (by omega) h
    exact br_f (nI_ge (by omega) (by omega)) ⟨m + 1, qq_iX35 h0 hm m 0 s (m + 1) (by omega) (by omega) nx⟩
theorem qq_iX18 {post : Int32 → SX → Prop} {f : Nat → Int32} {m : Nat} (h0 : 0 < m) (hm : m ≤ 12) : ∀ k x s n, x + k = m → k < n → post (nI (qq_fo (qq_Xf f m) k x s).1) (f, (qq_fo (qq_Xf f m) k x s).2) → wX_imageCount_18 post (nI m) n (nI s.1) (nI x) f s.2 := by
  intro k
  induction k with
  | zero =>
    intro x s n hx hn h
    obtain ⟨n, rfl⟩ : ∃ q, n = q + 1 := ⟨n - 1, by omega⟩
    obtain rfl : x = m := by omega
    exact br_t (Int32.le_refl _) h
  | succ k ih =>
    intro x s n hx hn h
    obtain ⟨n, rfl⟩ : ∃ q, n = q + 1 := ⟨n - 1, by omega⟩
    have nx := ih (x + 1) (qq_Xf f m s x) n (by omega) (by omega) h
    exact br_f (nI_ge (by omega) (by omega)) ⟨m + 1, qq_iX26 h0 hm m 0 s (m + 1) (by omega) (by omega) nx⟩
theorem qq_clr {g : Nat → Int32} {i : Nat} (h : ∀ j, j < i → g j = 0) : ∀ j, j < i + 1 → upd g i 0 j = 0 := by
  intro j hj
  by_cases e : j = i
  · subst e; exact pk_us
  · rw [pk_un e]; exact h j (by omega)
theorem qq_fg {post : SX → Prop} {f : Nat → Int32} (hp : ∀ g', (∀ j, j < 1728 → g' j = 0) → post (f, g')) : ∀ k i g n, i + k = 1728 → k < n → (∀ j, j < i → g j = 0) → wX_forgetSeen_2 post n (nI i) f g := by
  intro k
  induction k with
  | zero =>
    intro i g n hi hn h
    obtain ⟨n, rfl⟩ : ∃ q, n = q + 1 := ⟨n - 1, by omega⟩
    obtain rfl : i = 1728 := by omega
    exact br_t (Int32.le_refl _) (hp g h)
  | succ k ih =>
    intro i g n hi hn h
    obtain ⟨n, rfl⟩ : ∃ q, n = q + 1 := ⟨n - 1, by omega⟩
    refine br_f (nI_ge (b := 1728) (by omega) (by omega)) ?_
    rw [nI_clamp (by omega), qq_nb0, nI_1]
    exact ⟨vp_in_nI (by omega) (by omega), nm_e (nm_e (ih (i + 1) _ n (by omega) (by omega) (qq_clr h)))⟩
/-! Y -/
def qq_kY (f : Nat → Int32) (m x y z : Nat) : Nat := m * (m * qq_a f m 2 x y z + qq_a f m 1 x y z) + qq_a f m 0 x y z
theorem qq_kY_lt (f : Nat → Int32) {m : Nat} (h0 : 0 < m) (x y z : Nat) : qq_kY f m x y z < m * m * m := by
  rw [Nat.mul_assoc]
  exact qq_lt2 (qq_lt2 (qq_a_lt f h0 _ _ _ _) (qq_a_lt f h0 _ _ _ _)) (qq_a_lt f h0 _ _ _ _)
def qq_L (f : Nat → Int32) (m : Nat) (g : Nat → Int32) (l : Nat) : Nat → Int32 := upd g (qq_kY f m (l % m) (l / m % m) (l / m / m)) 1
theorem qq_sh (m a b c : Nat) : a + m * (b + m * c) = m * (m * c + b) + a := by rw [Nat.add_comm b, Nat.add_comm a]
theorem qq_reY {post : Int32 → Prop} {u : SY} {v : Int32} {m : Nat} (h0 : 0 < m) (hm : m ≤ 12) (h : post (nI (qq_rest v m))) : wpY_rest post u v (nI m) := by
  obtain ⟨f, g⟩ := u
  unfold wpY_rest
  dsimp only
  rw [qq_rY1 v h0 hm]
  exact ⟨nI_ne0 h0 (by omega), nI_ne0 h0 (by omega), h⟩
theorem qq_iY38 {post : Int32 → SY → Prop} {f : Nat → Int32} {m : Nat} (h0 : 0 < m) (hm : m ≤ 12) : ∀ k l g n, l + k = m * m * m → k < n → (∃ n127, wY_imageCount_127 post f (qq_fo (qq_L f m) k l g) n127 0 0) → wY_imageCount_38 post (nI m) n (nI l) f g := by
  have hM := qq_cube hm
  have hlt : ∀ x y z, qq_kY f m x y z < m * m * m := qq_kY_lt f h0
  generalize eM : m * m * m = M at hM hlt
  intro k
  induction k with
  | zero =>
    intro l g n hl hn h
    obtain ⟨n, rfl⟩ : ∃ q, n = q + 1 := ⟨n - 1, by omega⟩
    obtain rfl : l = M := by omega
    exact br_t (by rw [qq_mmm, eM]; exact Int32.le_refl _) h
  | succ k ih =>
    intro l g n hl hn h
    obtain ⟨n, rfl⟩ : ∃ q, n = q + 1 := ⟨n - 1, by omega⟩
    have nx := ih (l + 1) (qq_L f m g l) n (by omega) (by omega) h
    have lt := hlt (l % m) (l / m % m) (l / m / m)
    refine br_f (by rw [qq_mmm, eM]; exact nI_ge (by omega) (by omega)) ?_
    refine qq_rsY (r := 0) (by omega) (by omega) h0 (by omega) (qq_rsY (r := 1) (by omega) (by omega) h0 (by omega) (qq_rsY (r := 2) (by omega) (by omega) h0 (by omega) ?_))
    refine qq_reY h0 hm (qq_reY h0 hm (qq_reY h0 hm ?_))
    have e : nI (qq_rest (qq_rs f 0 (l % m) (l / m % m) (l / m / m)) m) + nI m * (nI (qq_rest (qq_rs f 1 (l % m) (l / m % m) (l / m / m)) m) + nI m * nI (qq_rest (qq_rs f 2 (l % m) (l / m % m) (l / m / m)) m)) = nI (qq_kY f m (l % m) (l / m % m) (l / m / m)) := by
      rw [pk_mul, nI_add, pk_mul, nI_add]
      unfold qq_kY qq_a
      congr 1
      exact qq_sh _ _ _ _
    rw [e, nI_clamp (by omega), qq_nb1, nI_1]
    exact ⟨vp_in_nI (by omega) (by omega), nm_e (nm_e nx)⟩
theorem qq_iY127 {post : Int32 → SY → Prop} {f g : Nat → Int32} (h : post (nI (qq_su (qq_ind g) 1728)) (f, g)) : ∀ k i n, i + k = 1728 → k < n → wY_imageCount_127 post f g n (nI (qq_su (qq_ind g) i)) (nI i) := by
  intro k
  induction k with
  | zero =>
    intro i n hi hn
    obtain ⟨n, rfl⟩ : ∃ q, n = q + 1 := ⟨n - 1, by omega⟩
    obtain rfl : i = 1728 := by omega
    exact br_t (Int32.le_refl _) h
  | succ k ih =>
    intro i n hi hn
    obtain ⟨n, rfl⟩ : ∃ q, n = q + 1 := ⟨n - 1, by omega⟩
    have nx := ih (i + 1) n (by omega) (by omega)
    have e : qq_su (qq_ind g) (i + 1) = qq_su (qq_ind g) i + qq_ind g i := rfl
    rw [e] at nx
    refine br_f (nI_ge (b := 1728) (by omega) (by omega)) ?_
    rw [nI_clamp (by omega), nI_1, nI_1]
    refine ⟨vp_in_nI (by omega) (by omega), ?_⟩
    by_cases z : g i = 0
    · have q : qq_ind g i = 0 := if_pos z
      rw [q] at nx
      exact br_t z (nm_e nx)
    · have q : qq_ind g i = 1 := if_neg z
      rw [q] at nx
      exact br_f z (nm_e (nm_e nx))
theorem qq_iY16 {post : Int32 → SY → Prop} {f : Nat → Int32} {x1 : Int32} (hp : ∀ g', (∀ j, j < 1728 → g' j = 0) → ∃ n38, wY_imageCount_38 post x1 n38 0 f g') : ∀ k i g n, i + k = 1728 → k < n → (∀ j, j < i → g j = 0) → wY_imageCount_16 post x1 n (nI i) f g := by
  intro k
  induction k with
  | zero =>
    intro i g n hi hn h
    obtain ⟨n, rfl⟩ : ∃ q, n = q + 1 := ⟨n - 1, by omega⟩
    obtain rfl : i = 1728 := by omega
    exact br_t (Int32.le_refl _) (hp g h)
  | succ k ih =>
    intro i g n hi hn h
    obtain ⟨n, rfl⟩ : ∃ q, n = q + 1 := ⟨n - 1, by omega⟩
    refine br_f (nI_ge (b := 1728) (by omega) (by omega)) ?_
    rw [nI_clamp (by omega), qq_nb0, nI_1]
    exact ⟨vp_in_nI (by omega) (by omega), nm_e (nm_e (ih (i + 1) _ n (by omega) (by omega) (qq_clr h)))⟩
/-! the two tables have equally many marks -/
def qq_T (f : Nat → Int32) (m a b c : Nat) : Prop := ∃ x y z, x < m ∧ y < m ∧ z < m ∧ qq_a f m 0 x y z = a ∧ qq_a f m 1 x y z = b ∧ qq_a f m 2 x y z = c
theorem qq_dig {m a b c a' b' c' : Nat} (hb : b < m) (hc : c < m) (hb' : b' < m) (hc' : c' < m) (e : m * (m * a + b) + c = m * (m * a' + b') + c') : a = a' ∧ b = b' ∧ c = c' := by
  have c1 := congrArg (· % m) e
  have d1 := congrArg (· / m) e
  simp only [qq_dm hc, qq_dm hc', qq_dd hc, qq_dd hc'] at c1 d1
  have c2 := congrArg (· % m) d1
  have d2 := congrArg (· / m) d1
  simp only [qq_dm hb, qq_dm hb', qq_dd hb, qq_dd hb'] at c2 d2
  exact ⟨d2, c2, c1⟩
theorem qq_fin {f gX gY : Nat → Int32} {m : Nat} (h0 : 0 < m) (hm : m ≤ 12) (hX : ∀ j, j < 1728 → (gX j ≠ 0 ↔ ∃ x y z, x < m ∧ y < m ∧ z < m ∧ qq_kX f m x y z = j)) (hY : ∀ j, j < 1728 → (gY j ≠ 0 ↔ ∃ x y z, x < m ∧ y < m ∧ z < m ∧ qq_kY f m x y z = j)) : qq_su (qq_ind gX) 1728 = qq_su (qq_ind gY) 1728 := by
  have hM := qq_cube hm
  have cut : ∀ (g : Nat → Int32) (k : Nat → Nat → Nat → Nat), (∀ x y z, k x y z < m * m * m) → (∀ j, j < 1728 → (g j ≠ 0 ↔ ∃ x y z, x < m ∧ y < m ∧ z < m ∧ k x y z = j)) → qq_su (qq_ind g) 1728 = qq_su (qq_ind g) (m * m * m) := by
    intro g k hk hg
    obtain ⟨d, e⟩ : ∃ d, 1728 = m * m * m + d := ⟨1728 - m * m * m, by omega⟩
    rw [e, qq_su_add, qq_su_congr (G := fun _ => 0) d (fun i hi => ?_), qq_su_zero, Nat.add_zero]
    refine if_pos (Decidable.byContradiction fun z => ?_)
    obtain ⟨x, y, w, _, _, _, q⟩ := (hg (m * m * m + i) (by omega)).mp z
    have := hk x y w
    omega
  rw [cut gX _ (qq_kX_lt f h0) hX, cut gY _ (qq_kY_lt f h0) hY]
  have dg : ∀ G : Nat → Nat, qq_su G (m * m * m) = qq_su (fun a => qq_su (fun b => qq_su (fun c => G (m * (m * a + b) + c)) m) m) m := by
    intro G
    rw [Nat.mul_assoc, qq_su_mul, qq_su_mul]
  rw [dg (qq_ind gX), dg (qq_ind gY)]
  refine (qq_tri' (fun c b a => qq_ind gX (m * (m * a + b) + c)) m).trans ?_
  refine qq_su_congr m (fun p hp => qq_su_congr m (fun q hq => qq_su_congr m (fun r hr => ?_)))
  have tX := hX (m * (m * r + q) + p) (Nat.lt_of_lt_of_le (by rw [Nat.mul_assoc]; exact qq_lt2 (qq_lt2 hr hq) hp) hM)
  have tY := hY (m * (m * p + q) + r) (Nat.lt_of_lt_of_le (by rw [Nat.mul_assoc]; exact qq_lt2 (qq_lt2 hp hq) hr) hM)
  have iff : gX (m * (m * r + q) + p) ≠ 0 ↔ gY (m * (m * p + q) + r) ≠ 0 := by
    rw [tX, tY]
    constructor
    · rintro ⟨x, y, z, hx, hy, hz, e⟩
      obtain ⟨a, b, c⟩ := qq_dig (qq_a_lt f h0 _ _ _ _) (qq_a_lt f h0 _ _ _ _) hq hp e
      exact ⟨x, y, z, hx, hy, hz, by unfold qq_kY; rw [a, b, c]⟩
    · rintro ⟨x, y, z, hx, hy, hz, e⟩
      obtain ⟨a, b, c⟩ := qq_dig (qq_a_lt f h0 _ _ _ _) (qq_a_lt f h0 _ _ _ _) hq hr e
      exact ⟨x, y, z, hx, hy, hz, by unfold qq_kX; rw [a, b, c]⟩
  show qq_ind gX (m * (m * r + q) + p) = qq_ind gY (m * (m * p + q) + r)
  unfold qq_ind
  by_cases z : gX (m * (m * r + q) + p) = 0
  · rw [if_pos z, if_pos (Decidable.byContradiction fun w => iff.mpr w z)]
  · rw [if_neg z, if_neg (iff.mp z)]
theorem qq_endX {f g : Nat → Int32} {m : Nat} (h0 : 0 < m) (hm : m ≤ 12) (hg : ∀ j, j < 1728 → g j = 0) : (∀ j, j < 1728 → ((qq_fo (qq_Xf f m) m 0 (0, g)).2 j ≠ 0 ↔ ∃ x y z, x < m ∧ y < m ∧ z < m ∧ qq_kX f m x y z = j)) ∧ (qq_fo (qq_Xf f m) m 0 (0, g)).1 = qq_su (qq_ind (qq_fo (qq_Xf f m) m 0 (0, g)).2) 1728 := by
  constructor
  · intro j hj
    have v1 : ∀ x y (s : Nat × (Nat → Int32)) z j, (qq_Z f m x y s z).2 j ≠ 0 ↔ s.2 j ≠ 0 ∨ qq_kX f m x y z = j := fun x y s z j => qq_st_V _ _ _
    have v2 := fun x (s : Nat × (Nat → Int32)) y j => qq_fo_V (T := fun s j => s.2 j ≠ 0) (v1 x y) m 0 s j
    have v3 := fun (s : Nat × (Nat → Int32)) x j => qq_fo_V (F := qq_Yf f m x) (T := fun s j => s.2 j ≠ 0) (v2 x) m 0 s j
    have v4 := qq_fo_V (F := qq_Xf f m) (T := fun s j => s.2 j ≠ 0) v3 m 0 (0, g) j
    refine v4.trans ⟨?_, ?_⟩
    · rintro (a | ⟨x, _, hx, y, _, hy, z, _, hz, e⟩)
      · exact absurd (hg j hj) a
      · exact ⟨x, y, z, by omega, by omega, by omega, e⟩
    · rintro ⟨x, y, z, hx, hy, hz, e⟩
      exact Or.inr ⟨x, by omega, by omega, y, by omega, by omega, z, by omega, by omega, e⟩
  · have k1 : ∀ x y (s : Nat × (Nat → Int32)) z, s.1 = qq_su (qq_ind s.2) 1728 → (qq_Z f m x y s z).1 = qq_su (qq_ind (qq_Z f m x y s z).2) 1728 := fun x y s z h => qq_st_K (Nat.lt_of_lt_of_le (qq_kX_lt f h0 x y z) (qq_cube hm)) h
    refine qq_fo_K (K := fun s : Nat × (Nat → Int32) => s.1 = qq_su (qq_ind s.2) 1728) (fun s x hs => qq_fo_K (K := fun s : Nat × (Nat → Int32) => s.1 = qq_su (qq_ind s.2) 1728) (fun s y hs => qq_fo_K (K := fun s : Nat × (Nat → Int32) => s.1 = qq_su (qq_ind s.2) 1728) (k1 x y) _ _ _ hs) _ _ _ hs) _ _ _ ?_
    show 0 = qq_su (qq_ind g) 1728
    rw [qq_su_congr (F := qq_ind g) (G := fun _ => 0) 1728 (fun i hi => if_pos (hg i hi)), qq_su_zero]
theorem qq_endY {f g : Nat → Int32} {m : Nat} (h0 : 0 < m) (hg : ∀ j, j < 1728 → g j = 0) : ∀ j, j < 1728 → ((qq_fo (qq_L f m) (m * m * m) 0 g) j ≠ 0 ↔ ∃ x y z, x < m ∧ y < m ∧ z < m ∧ qq_kY f m x y z = j) := by
  intro j hj
  have v := qq_fo_V (F := qq_L f m) (T := fun g j => g j ≠ 0) (V := fun l j => qq_kY f m (l % m) (l / m % m) (l / m / m) = j) (fun s i j => qq_upd1 _ _ _) (m * m * m) 0 g j
  refine v.trans ⟨?_, ?_⟩
  · rintro (a | ⟨l, _, hl, e⟩)
    · exact absurd (hg j hj) a
    · refine ⟨l % m, l / m % m, l / m / m, Nat.mod_lt _ h0, Nat.mod_lt _ h0, ?_, e⟩
      refine Nat.div_lt_of_lt_mul (Nat.div_lt_of_lt_mul ?_)
      rw [← Nat.mul_assoc]
      omega
  · rintro ⟨x, y, z, hx, hy, hz, e⟩
    refine Or.inr ⟨m * (m * z + y) + x, by omega, ?_, ?_⟩
    · have := qq_lt2 (qq_lt2 hz hy) hx
      rw [← Nat.mul_assoc] at this
      omega
    · show qq_kY f m _ _ _ = j
      rw [qq_dm hx, qq_dd hx, qq_dm hy, qq_dd hy]
      exact e
end
section
theorem i_vc_imageCount {k : Nat} {u : SX} {v : SY} (I : i_Rel k u v) (hk : k + 4 ≤ 2048) (v1 : Int32) : wpX_imageCount (fun r u' => wpY_imageCount (fun r' v' => r' = r ∧ i_Rel (k + 4) u' v') v v1) u v1 := by
  obtain ⟨f, g, h, rfl, rfl, H⟩ := I
  unfold wpX_imageCount wpY_imageCount
  dsimp only
  rcases qq_mod v1 with ⟨hX, hY⟩ | ⟨m, h0, hm, rfl, hX, hY⟩
  · exact hX _ (br_t rfl (hY _ _ ⟨rfl, f, g, h, rfl, rfl, H⟩))
  · refine hX _ (br_f (by decide) ⟨1729, qq_fg (fun gX zX => ?_) 1728 0 g 1729 (by omega) (by omega) (fun j hj => absurd hj (by omega))⟩)
    refine ⟨m + 1, qq_iX18 h0 hm m 0 (0, gX) (m + 1) (by omega) (by omega) ?_⟩
    refine hY _ _ ⟨1729, qq_iY16 (fun gY zY => ?_) 1728 0 h 1729 (by omega) (by omega) (fun j hj => absurd hj (by omega))⟩
    refine ⟨m * m * m + 1, qq_iY38 h0 hm (m * m * m) 0 gY _ (by omega) (by omega) ⟨1729, ?_⟩⟩
    obtain ⟨eX, cX⟩ := qq_endX (f := f) h0 hm zX
    refine qq_iY127 ⟨?_, f, _, _, rfl, rfl, H⟩ 1728 0 1729 (by omega) (by omega)
    rw [cX, qq_fin h0 hm eX (qq_endY h0 zY)]
end
