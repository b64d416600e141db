theorem pk_us {f : Nat → Int32} {k : Nat} {x : Int32} : upd f k x k = x := if_pos rfl
theorem pk_un {f : Nat → Int32} {k j : Nat} {x : Int32} (h : j ≠ k) : upd f k x j = f j := if_neg h
theorem pk_sub {a b : Nat} (h : b ≤ a) : nI a - nI b = nI (a - b) := by
  obtain ⟨c, rfl⟩ : ∃ c, a = c + b := ⟨a - b, by omega⟩
  rw [← nI_add, Int32.add_sub_cancel, Nat.add_sub_cancel]
theorem pk_m1 (n : Nat) : nI (n + 1) + (-1) = nI n := by
  rw [← nI_1, Int32.add_assoc, show (1 : Int32) + (-1) = 0 from rfl, Int32.add_zero]
theorem pk_mul (a b : Nat) : nI a * nI b = nI (a * b) := (Int32.ofNat_mul a b).symm
theorem pk_div {a d : Nat} (ha : a < 2 ^ 31) (h0 : 0 < d) (hd : d < 2 ^ 31) : nI a / nI d = nI (a / d) := by
  apply Int32.toInt_inj.mp
  rw [lg_idiv_nonneg (by rw [nI_toInt ha]; omega) (by rw [nI_toInt hd]; omega), nI_toInt ha, nI_toInt hd, nI_toInt (Nat.lt_of_le_of_lt (Nat.div_le_self a d) ha)]
  first | rfl | exact (Int.natCast_ediv _ _).symm
theorem pk_rem {a d : Nat} (ha : a < 2 ^ 31) (h0 : 0 < d) (hd : d < 2 ^ 31) : nI a - nI a / nI d * nI d = nI (a % d) := by
  rw [pk_div ha h0 hd, pk_mul, pk_sub (Nat.div_mul_le_self a d)]
  exact congrArg nI (by have := Nat.div_add_mod' a d; omega)
theorem pk_ix (x : Int32) {n : Nat} (hn : n < 2 ^ 31) : x < 0 ∨ nI n ≤ x ∨ ∃ j : Nat, j < n ∧ x = nI j := by
  by_cases h : x < 0
  · exact Or.inl h
  · obtain ⟨j, hj, rfl⟩ := nI_of h
    by_cases h2 : j < n
    · exact Or.inr (Or.inr ⟨j, h2, rfl⟩)
    · exact Or.inr (Or.inl (nI_le (by omega) hj))
theorem pk_le {x y : Int32} {A B : Prop} (a b : Nat) (f : a ≤ b → A) (g : b < a → B) (hx : x = nI a := by rfl) (hy : y = nI b := by rfl) (ha : a < 2 ^ 31 := by omega) (hb : b < 2 ^ 31 := by omega) : (x ≤ y → A) ∧ (¬ x ≤ y → B) := by
  subst hx hy
  rw [nI_leI ha hb]
  exact ⟨f, fun z => g (by omega)⟩
theorem pk_lt {x y : Int32} {A B : Prop} (a b : Nat) (f : a < b → A) (g : b ≤ a → B) (hx : x = nI a := by rfl) (hy : y = nI b := by rfl) (ha : a < 2 ^ 31 := by omega) (hb : b < 2 ^ 31 := by omega) : (x < y → A) ∧ (¬ x < y → B) := by
  subst hx hy
  rw [nI_ltI ha hb]
  exact ⟨f, fun z => g (by omega)⟩
theorem pk_eq {x y : Int32} {A B : Prop} (a b : Nat) (f : a = b → A) (g : a ≠ b → B) (hx : x = nI a := by rfl) (hy : y = nI b := by rfl) (ha : a < 2 ^ 31 := by omega) (hb : b < 2 ^ 31 := by omega) : (x = y → A) ∧ (¬ x = y → B) := by
  subst hx hy
  rw [nI_eq ha hb]
  exact ⟨f, g⟩
theorem pk_in {x : Int32} (n N : Nat) (h : n < N) (hx : x = nI n := by rfl) (hN : N < 2 ^ 31 := by omega) : vp_in x N := by
  subst hx
  exact vp_in_nI h hN
theorem pk_cl {x : Int32} (n : Nat) (hx : x = nI n := by rfl) (h : n < 2 ^ 31 := by omega) : x.toNatClampNeg = n := by
  subst hx
  exact nI_clamp h
def qq_ok (f : Nat → Int32) : Prop := ∀ j, (f j).toInt.natAbs ≤ 9
/-- both keep the same twelve numbers, each from -9 to 9; the boolean tables are free -/
def i_Rel (_ : Nat) (u : SX) (v : SY) : Prop := ∃ f g h, u = (f, g) ∧ v = (f, h) ∧ qq_ok f
theorem i_up {k : Nat} {u : SX} {v : SY} (h : i_Rel k u v) : i_Rel (k + 4) u v := h
theorem i_vc0 : wpX_init (fun u => wpY_init (fun v => i_Rel 0 u v)) := ⟨_, _, _, rfl, rfl, fun _ => (by decide : (0 : Int32).toInt.natAbs ≤ 9)⟩
theorem qq_ix (r c : Nat) : nI r * 4 + nI c = nI (r * 4 + c) := by
  rw [show (4 : Int32) = nI 4 from rfl, pk_mul, nI_add]
theorem qq_iy (r c : Nat) : 4 * nI r + nI c = nI (r * 4 + c) := by
  rw [show (4 : Int32) = nI 4 from rfl, pk_mul, nI_add, Nat.mul_comm]
theorem qq_ok_upd {f : Nat → Int32} (H : qq_ok f) (k : Nat) {x : Int32} (hx : x.toInt.natAbs ≤ 9) : qq_ok (upd f k x) := by
  intro j
  by_cases e : j = k
  · subst e; rw [pk_us]; exact hx
  · rw [pk_un e]; exact H j
theorem qq_place (x : Int32) : ((∀ post : Int32 → Prop, post 0 → wpX_isPlace post x) ∧ (∀ (post : Int32 → Prop) (v : SY), post 0 → wpY_isPlace post v x)) ∨ (∃ j, j < 3 ∧ x = nI j ∧ (∀ post : Int32 → Prop, post 1 → wpX_isPlace post x) ∧ (∀ (post : Int32 → Prop) (v : SY), post 1 → wpY_isPlace post v x)) := by
  rcases pk_ix x (n := 3) (by omega) with h | h | ⟨j, hj, rfl⟩
  · exact Or.inl ⟨fun _ p => br_t h p, fun _ _ p => br_t h p⟩
  · have h0 : ¬ x < 0 := fun z => absurd (Int32.lt_of_le_of_lt h z) (by decide)
    exact Or.inl ⟨fun _ p => br_f h0 (br_t h p), fun _ _ p => br_f h0 (br_t h p)⟩
  · have h0 : ¬ nI j < 0 := nI_pos (by omega)
    have h3 : ¬ nI 3 ≤ nI j := nI_ge hj (by omega)
    exact Or.inr ⟨j, hj, rfl, fun _ p => br_f h0 (br_f h3 p), fun _ _ p => br_f h0 (br_f h3 p)⟩
theorem qq_val {x : Int32} (h1 : ¬ x < -9) (h2 : ¬ 9 < x) : x.toInt.natAbs ≤ 9 := by
  have a := Int32.le_iff_toInt_le.mp (Int32.not_lt.mp h1)
  have b := Int32.le_iff_toInt_le.mp (Int32.not_lt.mp h2)
  rw [show (-9 : Int32).toInt = -9 from by decide] at a
  rw [show (9 : Int32).toInt = 9 from by decide] at b
  omega
theorem i_vc_set {k : Nat} {u : SX} {v : SY} (I : i_Rel k u v) (hk : k + 4 ≤ 2048) (v1 : Int32) (v2 : Int32) (v3 : Int32) : wpX_set (fun r u' => wpY_set (fun r' v' => r' = r ∧ i_Rel (k + 4) u' v') v v1 v2 v3) u v1 v2 v3 := by
  obtain ⟨f, g, h, rfl, rfl, H⟩ := I
  unfold wpX_set wpY_set
  dsimp only
  rcases qq_place v1 with ⟨hX, hY⟩ | ⟨r, hr, rfl, hX, hY⟩
  · exact hX _ (br_t rfl (hY _ _ (br_t rfl ⟨rfl, f, g, h, rfl, rfl, H⟩)))
  refine hX _ (br_f (by decide) ?_)
  rcases qq_place v2 with ⟨kX, kY⟩ | ⟨c, hc, rfl, kX, kY⟩
  · exact kX _ (br_t rfl (hY _ _ (br_f (by decide) (kY _ _ (br_t rfl ⟨rfl, f, g, h, rfl, rfl, H⟩)))))
  refine kX _ (br_f (by decide) ?_)
  by_cases h1 : v3 < -9
  · exact br_t h1 (br_t rfl (hY _ _ (br_f (by decide) (kY _ _ (br_f (by decide) (br_t h1 ⟨rfl, f, g, h, rfl, rfl, H⟩))))))
  · by_cases h2 : 9 < v3
    · exact br_f h1 (br_t h2 (br_t rfl (hY _ _ (br_f (by decide) (kY _ _ (br_f (by decide) (br_f h1 (br_f (Int32.not_le.mpr h2) ⟨rfl, f, g, h, rfl, rfl, H⟩))))))))
    · refine br_f h1 (br_f h2 (br_f (by decide) ⟨by rw [qq_ix]; exact vp_in_nI (by omega) (by omega), fun a ea => ?_⟩))
      refine hY _ _ (br_f (by decide) (kY _ _ (br_f (by decide) (br_f h1 (br_t (Int32.not_lt.mp h2) ⟨by rw [qq_iy]; exact vp_in_nI (by omega) (by omega), fun b eb => ⟨rfl, ?_⟩⟩)))))
      rw [qq_ix, nI_clamp (by omega)] at ea
      rw [qq_iy, nI_clamp (by omega)] at eb
      subst ea eb
      exact ⟨_, _, _, rfl, rfl, qq_ok_upd H _ (qq_val h1 h2)⟩
theorem i_vc_setRight {k : Nat} {u : SX} {v : SY} (I : i_Rel k u v) (hk : k + 4 ≤ 2048) (v1 : Int32) (v2 : Int32) : wpX_setRight (fun r u' => wpY_setRight (fun r' v' => r' = r ∧ i_Rel (k + 4) u' v') v v1 v2) u v1 v2 := by
  obtain ⟨f, g, h, rfl, rfl, H⟩ := I
  unfold wpX_setRight wpY_setRight
  dsimp only
  rcases qq_place v1 with ⟨hX, hY⟩ | ⟨r, hr, rfl, hX, hY⟩
  · exact hX _ (br_t rfl (hY _ _ (br_t rfl ⟨rfl, f, g, h, rfl, rfl, H⟩)))
  refine hX _ (br_f (by decide) ?_)
  by_cases h1 : v2 < -9
  · exact br_t h1 (br_t rfl (hY _ _ (br_f (by decide) (br_t h1 ⟨rfl, f, g, h, rfl, rfl, H⟩))))
  · by_cases h2 : 9 < v2
    · exact br_f h1 (br_t h2 (br_t rfl (hY _ _ (br_f (by decide) (br_f h1 (br_f (Int32.not_le.mpr h2) ⟨rfl, f, g, h, rfl, rfl, H⟩))))))
    · have e1 : nI r * 4 + 3 = nI (r * 4 + 3) := qq_ix r 3
      have e2 : 4 * nI r + 3 = nI (r * 4 + 3) := qq_iy r 3
      refine br_f h1 (br_f h2 (br_f (by decide) ⟨by rw [e1]; exact vp_in_nI (by omega) (by omega), fun a ea => ?_⟩))
      refine hY _ _ (br_f (by decide) (br_f h1 (br_t (Int32.not_lt.mp h2) ⟨by rw [e2]; exact vp_in_nI (by omega) (by omega), fun b eb => ⟨rfl, ?_⟩⟩)))
      rw [e1, nI_clamp (by omega)] at ea
      rw [e2, nI_clamp (by omega)] at eb
      subst ea eb
      exact ⟨_, _, _, rfl, rfl, qq_ok_upd H _ (qq_val h1 h2)⟩
/-! turn -/
def qq_sw (f : Nat → Int32) (i j : Nat) : Nat → Int32 := upd (upd f i (f j)) j (f i)
theorem qq_sw_comm (f : Nat → Int32) (i j : Nat) : qq_sw f i j = qq_sw f j i := by
  funext k
  unfold qq_sw upd
  by_cases a : k = i <;> by_cases b : k = j <;> simp_all
theorem qq_sw_ok {f : Nat → Int32} (H : qq_ok f) (i j : Nat) : qq_ok (qq_sw f i j) := qq_ok_upd (qq_ok_upd H _ (H j)) _ (H i)
theorem qq_t9s {post : SX → Prop} {J2 : Int32 → (Nat → Int32) → (Nat → Int32) → Prop} {n r c : Nat} {f g : Nat → Int32} (hc : c < r) (hr : r < 3) (h : wX_turn_9 post J2 (nI r) n (nI (c + 1)) (qq_sw f (r * 4 + c) (c * 4 + r)) g) : wX_turn_9 post J2 (nI r) (n + 1) (nI c) f g := by
  refine br_f (nI_ge hc (by omega)) ?_
  rw [qq_ix, qq_ix, nI_clamp (by omega), nI_clamp (by omega), nI_1]
  refine ⟨vp_in_nI (by omega) (by omega), fun x ex => ⟨vp_in_nI (by omega) (by omega), vp_in_nI (by omega) (by omega), fun a ea => ⟨vp_in_nI (by omega) (by omega), fun b eb => nm_e ?_⟩⟩⟩
  subst ex ea eb
  exact h
theorem qq_t9e {post : SX → Prop} {J2 : Int32 → (Nat → Int32) → (Nat → Int32) → Prop} {n r : Nat} {f g : Nat → Int32} (h : J2 (nI (r + 1)) f g) : wX_turn_9 post J2 (nI r) (n + 1) (nI r) f g :=
  br_t (Int32.le_refl _) (nm_r (nI_1 r) h)
theorem qq_t2s {post : SX → Prop} {n r : Nat} {f g : Nat → Int32} (hr : r < 3) (m : Nat) (h : wX_turn_9 post (wX_turn_2 post n) (nI r) m (nI 0) f g) : wX_turn_2 post (n + 1) (nI r) f g :=
  br_f (nI_ge (b := 3) hr (by omega)) ⟨m, h⟩
theorem qq_turnX {post : SX → Prop} {f g : Nat → Int32} (h : post (qq_sw (qq_sw (qq_sw f 4 1) 8 2) 9 6, g)) : wpX_turn post (f, g) := by
  refine ⟨4, qq_t2s (r := 0) (by omega) 1 (qq_t9e (qq_t2s (r := 1) (by omega) 2 (qq_t9s (by omega) (by omega) (qq_t9e (qq_t2s (r := 2) (by omega) 3 (qq_t9s (by omega) (by omega) (qq_t9s (by omega) (by omega) (qq_t9e ?_))))))))⟩
  exact br_t (nI_le (a := 3) (b := 3) (by omega) (by omega)) h
theorem qq_exY {post : SY → Prop} {f g : Nat → Int32} (i j : Nat) (hi : i < 12) (hj : j < 12) (h : post (qq_sw f i j, g)) : wpY_exchange post (f, g) (nI i) (nI j) := by
  unfold wpY_exchange
  dsimp only
  rw [nI_clamp (by omega), nI_clamp (by omega)]
  refine ⟨vp_in_nI hi (by omega), fun x ex => ⟨vp_in_nI hj (by omega), vp_in_nI hi (by omega), fun a ea => ⟨vp_in_nI hj (by omega), fun b eb => ?_⟩⟩⟩
  subst ex ea eb
  exact h
theorem i_vc_turn {k : Nat} {u : SX} {v : SY} (I : i_Rel k u v) (hk : k + 4 ≤ 2048) : wpX_turn (fun u' => wpY_turn (fun v' => i_Rel (k + 4) u' v') v) u := by
  obtain ⟨f, g, h, rfl, rfl, H⟩ := I
  refine qq_turnX ?_
  unfold wpY_turn
  dsimp only
  refine qq_exY 1 4 (by omega) (by omega) ?_
  dsimp only
  refine qq_exY 2 8 (by omega) (by omega) ?_
  dsimp only
  refine qq_exY 6 9 (by omega) (by omega) ?_
  dsimp only
  refine ⟨_, g, h, rfl, ?_, qq_sw_ok (qq_sw_ok (qq_sw_ok H _ _) _ _) _ _⟩
  rw [qq_sw_comm f 4 1, qq_sw_comm _ 8 2, qq_sw_comm _ 9 6]
