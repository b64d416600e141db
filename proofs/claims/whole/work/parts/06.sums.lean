/-! sums below a bound -/
def qq_su (F : Nat → Nat) : Nat → Nat
  | 0 => 0
  | n + 1 => qq_su F n + F n
theorem qq_su_congr {F G : Nat → Nat} : ∀ n, (∀ i, i < n → F i = G i) → qq_su F n = qq_su G n := by
  intro n
  induction n with
  | zero => intro _; rfl
  | succ n ih =>
    intro h
    show qq_su F n + F n = qq_su G n + G n
    rw [ih (fun i hi => h i (by omega)), h n (by omega)]
theorem qq_su_add (F : Nat → Nat) (n : Nat) : ∀ k, qq_su F (n + k) = qq_su F n + qq_su (fun i => F (n + i)) k := by
  intro k
  induction k with
  | zero => rfl
  | succ k ih =>
    show qq_su F (n + k) + F (n + k) = qq_su F n + (qq_su (fun i => F (n + i)) k + F (n + k))
    rw [ih, Nat.add_assoc]
theorem qq_su_mul (F : Nat → Nat) (m : Nat) : ∀ n, qq_su F (m * n) = qq_su (fun j => qq_su (fun i => F (m * j + i)) m) n := by
  intro n
  induction n with
  | zero => rfl
  | succ n ih =>
    rw [Nat.mul_succ, qq_su_add, ih]
    rfl
theorem qq_su_zero : ∀ n, qq_su (fun _ => 0) n = 0 := by
  intro n
  induction n with
  | zero => rfl
  | succ n ih => exact ih
theorem qq_su_plus (F G : Nat → Nat) : ∀ n, qq_su (fun i => F i + G i) n = qq_su F n + qq_su G n := by
  intro n
  induction n with
  | zero => rfl
  | succ n ih =>
    show qq_su (fun i => F i + G i) n + (F n + G n) = qq_su F n + F n + (qq_su G n + G n)
    rw [ih]
    omega
theorem qq_su_comm (P : Nat → Nat → Nat) (n : Nat) : ∀ m, qq_su (fun x => qq_su (fun y => P x y) n) m = qq_su (fun y => qq_su (fun x => P x y) m) n := by
  intro m
  induction m with
  | zero => exact (qq_su_zero n).symm
  | succ m ih =>
    show qq_su (fun x => qq_su (fun y => P x y) n) m + qq_su (fun y => P m y) n = qq_su (fun y => qq_su (fun x => P x y) m + P m y) n
    rw [qq_su_plus, ih]
theorem qq_su_le {F : Nat → Nat} (h : ∀ i, F i ≤ 1) : ∀ n, qq_su F n ≤ n := by
  intro n
  induction n with
  | zero => exact Nat.le_refl _
  | succ n ih =>
    have := h n
    show qq_su F n + F n ≤ n + 1
    omega
theorem qq_su_mono (F : Nat → Nat) {a b : Nat} (h : a ≤ b) : qq_su F a ≤ qq_su F b := by
  obtain ⟨k, rfl⟩ : ∃ k, b = a + k := ⟨b - a, by omega⟩
  rw [qq_su_add]
  omega
theorem qq_su_tail {F : Nat → Nat} {a b : Nat} (h : a ≤ b) (hz : ∀ i, a ≤ i → F i = 0) : qq_su F b = qq_su F a := by
  obtain ⟨k, rfl⟩ : ∃ k, b = a + k := ⟨b - a, by omega⟩
  rw [qq_su_add, qq_su_congr (G := fun _ => 0) k (fun i _ => hz _ (by omega)), qq_su_zero]
  omega
theorem qq_su_one {F G : Nat → Nat} {c : Nat} (hc : F c = G c + 1) (ho : ∀ i, i ≠ c → F i = G i) : ∀ n, c < n → qq_su F n = qq_su G n + 1 := by
  intro n
  induction n with
  | zero => intro h; omega
  | succ n ih =>
    intro h
    show qq_su F n + F n = qq_su G n + G n + 1
    by_cases e : n = c
    · subst e
      rw [qq_su_congr n (fun i hi => ho i (by omega)), hc]
      omega
    · rw [ih (by omega), ho n e]
      omega
/-! the digits of a number -/
theorem qq_dm {m a b : Nat} (h : a < m) : (m * b + a) % m = a := by
  rw [Nat.mul_add_mod, Nat.mod_eq_of_lt h]
theorem qq_dd {m a b : Nat} (h : a < m) : (m * b + a) / m = b := by
  have h0 : 0 < m := by omega
  rw [Nat.mul_add_div h0, Nat.div_eq_of_lt h, Nat.add_zero]
theorem qq_tri (C : Nat → Nat → Nat → Nat) (m : Nat) : qq_su (fun l => C (l % m) (l / m % m) (l / m / m)) (m * m * m) = qq_su (fun z => qq_su (fun y => qq_su (fun x => C x y z) m) m) m := by
  rw [Nat.mul_assoc, qq_su_mul, qq_su_mul]
  refine qq_su_congr m (fun z hz => qq_su_congr m (fun y hy => qq_su_congr m (fun x hx => ?_)))
  rw [qq_dm hx, qq_dd hx, qq_dm hy, qq_dd hy]
theorem qq_tri' (C : Nat → Nat → Nat → Nat) (m : Nat) : qq_su (fun z => qq_su (fun y => qq_su (fun x => C x y z) m) m) m = qq_su (fun x => qq_su (fun y => qq_su (fun z => C x y z) m) m) m := by
  rw [qq_su_congr m (fun z _ => qq_su_comm (fun y x => C x y z) m m)]
  rw [qq_su_comm (fun z x => qq_su (fun y => C x y z) m) m m]
  exact qq_su_congr m (fun x _ => qq_su_comm (fun z y => C x y z) m m)
