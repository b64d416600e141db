/-! the divisors D(k): X's loops and Y's loops as folds of the common divisor -/
def qq_up (F : Nat → Nat → Nat) : Nat → Nat → Nat → Nat
  | 0, _, a => a
  | k + 1, i, a => qq_up F k (i + 1) (F a i)
theorem qq_up_le {F : Nat → Nat → Nat} (hF : ∀ a i, a ≤ 5000 → F a i ≤ 5000) : ∀ k i a, a ≤ 5000 → qq_up F k i a ≤ 5000 := by
  intro k
  induction k with
  | zero => intro i a h; exact h
  | succ k ih => intro i a h; exact ih _ _ (hF a i h)
/-! X, size one -/
def qq_F1 (f : Nat → Int32) (r a c : Nat) : Nat := Nat.gcd a (qq_na (f (r * 4 + c)))
def qq_E1 (f : Nat → Int32) (cols a r : Nat) : Nat := qq_up (qq_F1 f r) cols 0 a
theorem qq_F1_le {f : Nat → Int32} (H : qq_ok f) (r a c : Nat) (h : a ≤ 5000) : qq_F1 f r a c ≤ 5000 := qq_gle h (qq_n1 H _)
theorem qq_E1_le {f : Nat → Int32} (H : qq_ok f) (cols a r : Nat) (h : a ≤ 5000) : qq_E1 f cols a r ≤ 5000 := qq_up_le (qq_F1_le H r) _ _ _ h
theorem qq_X1_12 {post : Int32 → Prop} {J4 : Int32 → Int32 → Prop} {f g : Nat → Int32} {cols r : Nat} (H : qq_ok f) (hr : r < 3) (hC : cols ≤ 4) : ∀ k c a n, c + k = cols → k < n → a ≤ 5000 → J4 (nI (qq_up (qq_F1 f r) k c a)) (nI (r + 1)) → wX_divisorOfOnes_12 post J4 (nI cols) (nI r) f g n (nI a) (nI c) := by
  intro k
  induction k with
  | zero =>
    intro c a n hc hn ha h
    obtain ⟨n, rfl⟩ : ∃ m, n = m + 1 := ⟨n - 1, by omega⟩
    exact br_t (nI_le (by omega) (by omega)) (nm_r (nI_1 r) h)
  | succ k ih =>
    intro c a n hc hn ha h
    obtain ⟨n, rfl⟩ : ∃ m, n = m + 1 := ⟨n - 1, by omega⟩
    refine br_f (nI_ge (by omega) (by omega)) ?_
    rw [qq_ix, nI_clamp (by omega)]
    exact ⟨vp_in_nI (by omega) (by omega), qq_gX ha (qq_n1 H _) (nm_r (nI_1 c) (ih (c + 1) _ n (by omega) (by omega) (qq_F1_le H r a c ha) h))⟩
theorem qq_X1_4 {post : Int32 → Prop} {f g : Nat → Int32} {cols : Nat} (H : qq_ok f) (hC : cols ≤ 4) : ∀ k r a n, r + k = 3 → k < n → a ≤ 5000 → post (nI (qq_up (qq_E1 f cols) k r a)) → wX_divisorOfOnes_4 post (nI cols) f g n (nI a) (nI r) := by
  intro k
  induction k with
  | zero =>
    intro r a n hr hn ha h
    obtain ⟨n, rfl⟩ : ∃ m, n = m + 1 := ⟨n - 1, by omega⟩
    exact br_t (nI_le (a := 3) (by omega) (by omega)) h
  | succ k ih =>
    intro r a n hr hn ha h
    obtain ⟨n, rfl⟩ : ∃ m, n = m + 1 := ⟨n - 1, by omega⟩
    exact br_f (nI_ge (b := 3) (by omega) (by omega)) ⟨cols + 1, qq_X1_12 H (by omega) hC cols 0 a _ (by omega) (by omega) ha (ih (r + 1) _ n (by omega) (by omega) (qq_E1_le H cols a r ha) h)⟩
def qq_d1 (f : Nat → Int32) (cols : Nat) : Nat := qq_up (qq_E1 f cols) 3 0 0
theorem qq_X1 {post : Int32 → Prop} {f g : Nat → Int32} {cols : Nat} (H : qq_ok f) (hC : cols ≤ 4) (h : post (nI (qq_d1 f cols))) : wpX_divisorOfOnes post (f, g) (nI cols) :=
  ⟨4, qq_X1_4 H hC 3 0 0 4 (by omega) (by omega) (by omega) h⟩
/-! X, size two -/
def qq_F2 (f : Nat → Int32) (r s c a d : Nat) : Nat := Nat.gcd a (qq_na (qq_m2 f r s c d))
def qq_E2 (f : Nat → Int32) (cols r s a c : Nat) : Nat := qq_up (qq_F2 f r s c) (cols - (c + 1)) (c + 1) a
def qq_S2 (f : Nat → Int32) (cols r a s : Nat) : Nat := qq_up (qq_E2 f cols r s) cols 0 a
def qq_R2 (f : Nat → Int32) (cols a r : Nat) : Nat := qq_up (qq_S2 f cols r) (3 - (r + 1)) (r + 1) a
theorem qq_F2_le {f : Nat → Int32} (H : qq_ok f) (r s c a d : Nat) (h : a ≤ 5000) : qq_F2 f r s c a d ≤ 5000 := qq_gle h (qq_n2 H _ _ _ _)
theorem qq_E2_le {f : Nat → Int32} (H : qq_ok f) (cols r s a c : Nat) (h : a ≤ 5000) : qq_E2 f cols r s a c ≤ 5000 := qq_up_le (qq_F2_le H r s c) _ _ _ h
theorem qq_S2_le {f : Nat → Int32} (H : qq_ok f) (cols r a s : Nat) (h : a ≤ 5000) : qq_S2 f cols r a s ≤ 5000 := qq_up_le (qq_E2_le H cols r s) _ _ _ h
theorem qq_R2_le {f : Nat → Int32} (H : qq_ok f) (cols a r : Nat) (h : a ≤ 5000) : qq_R2 f cols a r ≤ 5000 := qq_up_le (qq_S2_le H cols r) _ _ _ h
theorem qq_X2_35 {post : Int32 → Prop} {J4 J14 J23 : Int32 → Int32 → Prop} {f g : Nat → Int32} {cols r s c : Nat} (H : qq_ok f) (hr : r < 3) (hs : s < 3) (hc : c < 4) (hC : cols ≤ 4) : ∀ k d a n, d + k = cols → k < n → a ≤ 5000 → J23 (nI (qq_up (qq_F2 f r s c) k d a)) (nI (c + 1)) → wX_divisorOfTwos_35 post J4 J14 J23 (nI cols) (nI r) (nI s) (nI c) f g n (nI a) (nI d) := by
  intro k
  induction k with
  | zero =>
    intro d a n hd hn ha h
    obtain ⟨n, rfl⟩ : ∃ m, n = m + 1 := ⟨n - 1, by omega⟩
    exact br_t (nI_le (by omega) (by omega)) (nm_r (nI_1 c) h)
  | succ k ih =>
    intro d a n hd hn ha h
    obtain ⟨n, rfl⟩ : ∃ m, n = m + 1 := ⟨n - 1, by omega⟩
    exact br_f (nI_ge (by omega) (by omega)) (qq_X2 hr hs hc (by omega) (qq_gX ha (qq_n2 H _ _ _ _) (nm_r (nI_1 d) (ih (d + 1) _ n (by omega) (by omega) (qq_F2_le H r s c a d ha) h))))
theorem qq_X2_23 {post : Int32 → Prop} {J4 J14 : Int32 → Int32 → Prop} {f g : Nat → Int32} {cols r s : Nat} (H : qq_ok f) (hr : r < 3) (hs : s < 3) (hC : cols ≤ 4) : ∀ k c a n, c + k = cols → k < n → a ≤ 5000 → J14 (nI (qq_up (qq_E2 f cols r s) k c a)) (nI (s + 1)) → wX_divisorOfTwos_23 post J4 J14 (nI cols) (nI r) (nI s) f g n (nI a) (nI c) := by
  intro k
  induction k with
  | zero =>
    intro c a n hc hn ha h
    obtain ⟨n, rfl⟩ : ∃ m, n = m + 1 := ⟨n - 1, by omega⟩
    exact br_t (nI_le (by omega) (by omega)) (nm_r (nI_1 s) h)
  | succ k ih =>
    intro c a n hc hn ha h
    obtain ⟨n, rfl⟩ : ∃ m, n = m + 1 := ⟨n - 1, by omega⟩
    exact br_f (nI_ge (by omega) (by omega)) (nm_r (nI_1 c) ⟨cols - (c + 1) + 1, qq_X2_35 H hr hs (by omega) hC (cols - (c + 1)) (c + 1) a _ (by omega) (by omega) ha (ih (c + 1) _ n (by omega) (by omega) (qq_E2_le H cols r s a c ha) h)⟩)
theorem qq_X2_14 {post : Int32 → Prop} {J4 : Int32 → Int32 → Prop} {f g : Nat → Int32} {cols r : Nat} (H : qq_ok f) (hr : r < 3) (hC : cols ≤ 4) : ∀ k s a n, s + k = 3 → k < n → a ≤ 5000 → J4 (nI (qq_up (qq_S2 f cols r) k s a)) (nI (r + 1)) → wX_divisorOfTwos_14 post J4 (nI cols) (nI r) f g n (nI a) (nI s) := by
  intro k
  induction k with
  | zero =>
    intro s a n hs hn ha h
    obtain ⟨n, rfl⟩ : ∃ m, n = m + 1 := ⟨n - 1, by omega⟩
    exact br_t (nI_le (a := 3) (by omega) (by omega)) (nm_r (nI_1 r) h)
  | succ k ih =>
    intro s a n hs hn ha h
    obtain ⟨n, rfl⟩ : ∃ m, n = m + 1 := ⟨n - 1, by omega⟩
    exact br_f (nI_ge (b := 3) (by omega) (by omega)) ⟨cols + 1, qq_X2_23 H hr (by omega) hC cols 0 a _ (by omega) (by omega) ha (ih (s + 1) _ n (by omega) (by omega) (qq_S2_le H cols r a s ha) h)⟩
theorem qq_X2_4 {post : Int32 → Prop} {f g : Nat → Int32} {cols : Nat} (H : qq_ok f) (hC : cols ≤ 4) : ∀ k r a n, r + k = 3 → k < n → a ≤ 5000 → post (nI (qq_up (qq_R2 f cols) k r a)) → wX_divisorOfTwos_4 post (nI cols) f g n (nI a) (nI r) := by
  intro k
  induction k with
  | zero =>
    intro r a n hr hn ha h
    obtain ⟨n, rfl⟩ : ∃ m, n = m + 1 := ⟨n - 1, by omega⟩
    exact br_t (nI_le (a := 3) (by omega) (by omega)) h
  | succ k ih =>
    intro r a n hr hn ha h
    obtain ⟨n, rfl⟩ : ∃ m, n = m + 1 := ⟨n - 1, by omega⟩
    exact br_f (nI_ge (b := 3) (by omega) (by omega)) (nm_r (nI_1 r) ⟨3 - (r + 1) + 1, qq_X2_14 H (by omega) hC (3 - (r + 1)) (r + 1) a _ (by omega) (by omega) ha (ih (r + 1) _ n (by omega) (by omega) (qq_R2_le H cols a r ha) h)⟩)
def qq_d2 (f : Nat → Int32) (cols : Nat) : Nat := qq_up (qq_R2 f cols) 3 0 0
theorem qq_Xd2 {post : Int32 → Prop} {f g : Nat → Int32} {cols : Nat} (H : qq_ok f) (hC : cols ≤ 4) (h : post (nI (qq_d2 f cols))) : wpX_divisorOfTwos post (f, g) (nI cols) :=
  ⟨4, qq_X2_4 H hC 3 0 0 4 (by omega) (by omega) (by omega) h⟩
/-! X, size three -/
def qq_F3 (f : Nat → Int32) (c d a e : Nat) : Nat := Nat.gcd a (qq_na (qq_m3 f c d e))
def qq_E3 (f : Nat → Int32) (cols c a d : Nat) : Nat := qq_up (qq_F3 f c d) (cols - (d + 1)) (d + 1) a
def qq_R3 (f : Nat → Int32) (cols a c : Nat) : Nat := qq_up (qq_E3 f cols c) (cols - (c + 1)) (c + 1) a
theorem qq_F3_le {f : Nat → Int32} (H : qq_ok f) (c d a e : Nat) (h : a ≤ 5000) : qq_F3 f c d a e ≤ 5000 := qq_gle h (qq_n3 H _ _ _)
theorem qq_E3_le {f : Nat → Int32} (H : qq_ok f) (cols c a d : Nat) (h : a ≤ 5000) : qq_E3 f cols c a d ≤ 5000 := qq_up_le (qq_F3_le H c d) _ _ _ h
theorem qq_R3_le {f : Nat → Int32} (H : qq_ok f) (cols a c : Nat) (h : a ≤ 5000) : qq_R3 f cols a c ≤ 5000 := qq_up_le (qq_E3_le H cols c) _ _ _ h
theorem qq_X3_26 {post : Int32 → Prop} {J4 J14 : Int32 → Int32 → Prop} {f g : Nat → Int32} {cols c d : Nat} (H : qq_ok f) (hc : c < 4) (hd : d < 4) (hC : cols ≤ 4) : ∀ k e a n, e + k = cols → k < n → a ≤ 5000 → J14 (nI (qq_up (qq_F3 f c d) k e a)) (nI (d + 1)) → wX_divisorOfThrees_26 post J4 J14 (nI cols) (nI c) (nI d) f g n (nI a) (nI e) := by
  intro k
  induction k with
  | zero =>
    intro e a n he hn ha h
    obtain ⟨n, rfl⟩ : ∃ m, n = m + 1 := ⟨n - 1, by omega⟩
    exact br_t (nI_le (by omega) (by omega)) (nm_r (nI_1 d) h)
  | succ k ih =>
    intro e a n he hn ha h
    obtain ⟨n, rfl⟩ : ∃ m, n = m + 1 := ⟨n - 1, by omega⟩
    exact br_f (nI_ge (by omega) (by omega)) (qq_X3 hc hd (by omega) (qq_gX ha (qq_n3 H _ _ _) (nm_r (nI_1 e) (ih (e + 1) _ n (by omega) (by omega) (qq_F3_le H c d a e ha) h))))
theorem qq_X3_14 {post : Int32 → Prop} {J4 : Int32 → Int32 → Prop} {f g : Nat → Int32} {cols c : Nat} (H : qq_ok f) (hc : c < 4) (hC : cols ≤ 4) : ∀ k d a n, d + k = cols → k < n → a ≤ 5000 → J4 (nI (qq_up (qq_E3 f cols c) k d a)) (nI (c + 1)) → wX_divisorOfThrees_14 post J4 (nI cols) (nI c) f g n (nI a) (nI d) := by
  intro k
  induction k with
  | zero =>
    intro d a n hd hn ha h
    obtain ⟨n, rfl⟩ : ∃ m, n = m + 1 := ⟨n - 1, by omega⟩
    exact br_t (nI_le (by omega) (by omega)) (nm_r (nI_1 c) h)
  | succ k ih =>
    intro d a n hd hn ha h
    obtain ⟨n, rfl⟩ : ∃ m, n = m + 1 := ⟨n - 1, by omega⟩
    exact br_f (nI_ge (by omega) (by omega)) (nm_r (nI_1 d) ⟨cols - (d + 1) + 1, qq_X3_26 H hc (by omega) hC (cols - (d + 1)) (d + 1) a _ (by omega) (by omega) ha (ih (d + 1) _ n (by omega) (by omega) (qq_E3_le H cols c a d ha) h)⟩)
theorem qq_X3_4 {post : Int32 → Prop} {f g : Nat → Int32} {cols : Nat} (H : qq_ok f) (hC : cols ≤ 4) : ∀ k c a n, c + k = cols → k < n → a ≤ 5000 → post (nI (qq_up (qq_R3 f cols) k c a)) → wX_divisorOfThrees_4 post (nI cols) f g n (nI a) (nI c) := by
  intro k
  induction k with
  | zero =>
    intro c a n hc hn ha h
    obtain ⟨n, rfl⟩ : ∃ m, n = m + 1 := ⟨n - 1, by omega⟩
    exact br_t (nI_le (by omega) (by omega)) h
  | succ k ih =>
    intro c a n hc hn ha h
    obtain ⟨n, rfl⟩ : ∃ m, n = m + 1 := ⟨n - 1, by omega⟩
    exact br_f (nI_ge (by omega) (by omega)) (nm_r (nI_1 c) ⟨cols - (c + 1) + 1, qq_X3_14 H (by omega) hC (cols - (c + 1)) (c + 1) a _ (by omega) (by omega) ha (ih (c + 1) _ n (by omega) (by omega) (qq_R3_le H cols a c ha) h)⟩)
def qq_d3 (f : Nat → Int32) (cols : Nat) : Nat := qq_up (qq_R3 f cols) cols 0 0
theorem qq_Xd3 {post : Int32 → Prop} {f g : Nat → Int32} {cols : Nat} (H : qq_ok f) (hC : cols ≤ 4) (h : post (nI (qq_d3 f cols))) : wpX_divisorOfThrees post (f, g) (nI cols) :=
  ⟨cols + 1, qq_X3_4 H hC cols 0 0 _ (by omega) (by omega) (by omega) h⟩
def qq_D (f : Nat → Int32) (cols : Nat) : Nat → Nat
  | 0 => 1
  | 1 => qq_d1 f cols
  | 2 => qq_d2 f cols
  | _ => qq_d3 f cols
theorem qq_D_le {f : Nat → Int32} (H : qq_ok f) (cols k : Nat) : qq_D f cols k ≤ 5000 := by
  match k with
  | 0 => exact (by decide : 1 ≤ 5000)
  | 1 => exact qq_up_le (qq_E1_le H cols) _ _ _ (by omega)
  | 2 => exact qq_up_le (qq_R2_le H cols) _ _ _ (by omega)
  | k + 3 => exact qq_up_le (qq_R3_le H cols) _ _ _ (by omega)
theorem qq_DX {post : Int32 → Prop} {f g : Nat → Int32} {cols k : Nat} (H : qq_ok f) (hC : cols ≤ 4) (hk : k ≤ 3) (h : post (nI (qq_D f cols k))) : wpX_divisor post (f, g) (nI k) (nI cols) := by
  unfold wpX_divisor
  dsimp only
  match k, hk with
  | 0, _ => exact br_t (by decide) h
  | 1, _ => exact br_f (by decide) (br_f (by decide) (br_t rfl (qq_X1 H hC h)))
  | 2, _ => exact br_f (by decide) (br_f (by decide) (br_f (by decide) (br_t rfl (qq_Xd2 H hC h))))
  | 3, _ => exact br_f (by decide) (br_f (by decide) (br_f (by decide) (br_f (by decide) (br_t rfl (qq_Xd3 H hC h)))))
