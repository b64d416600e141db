/-! rank, invariant, solvable, only -/
def qq_rk (D : Nat → Nat) : Nat → Nat
  | 0 => 0
  | k + 1 => if D (k + 1) = 0 then qq_rk D k else k + 1
theorem qq_rk_le (D : Nat → Nat) : ∀ k, qq_rk D k ≤ k := by
  intro k
  induction k with
  | zero => exact Nat.le_refl _
  | succ k ih =>
    unfold qq_rk
    split
    · exact Nat.le_trans ih (by omega)
    · exact Nat.le_refl _
theorem qq_rkX {post : Int32 → Prop} {f g : Nat → Int32} {cols : Nat} (H : qq_ok f) (hC : cols ≤ 4) : ∀ k n, k ≤ 3 → k < n → post (nI (qq_rk (qq_D f cols) k)) → wX_rankOfFirst_2 post (nI cols) f g n (nI k) := by
  intro k
  induction k with
  | zero =>
    intro n hk hn h
    obtain ⟨n, rfl⟩ : ∃ m, n = m + 1 := ⟨n - 1, by omega⟩
    exact br_t (by decide) h
  | succ k ih =>
    intro n hk hn h
    obtain ⟨n, rfl⟩ : ∃ m, n = m + 1 := ⟨n - 1, by omega⟩
    refine br_f (nI_nlt (b := 1) (by omega) (by omega)) (qq_DX H hC hk ?_)
    have hl := qq_D_le H cols (k + 1)
    unfold qq_rk at h
    by_cases z : qq_D f cols (k + 1) = 0
    · rw [if_pos z] at h
      exact br_t (by rw [z]; rfl) (nm_r (pk_m1 k) (ih n (by omega) (by omega) h))
    · rw [if_neg z] at h
      exact br_f (nI_ne0 (by omega) (by omega)) h
theorem qq_rkY {post : Int32 → Prop} {f g : Nat → Int32} {cols : Nat} (H : qq_ok f) (hC : cols = 3 ∨ cols = 4) : ∀ k n, k ≤ 3 → k < n → post (nI (qq_rk (qq_D f cols) k)) → wY_rankOf_2 post (nI cols) f g n (nI k) := by
  intro k
  induction k with
  | zero =>
    intro n hk hn h
    obtain ⟨n, rfl⟩ : ∃ m, n = m + 1 := ⟨n - 1, by omega⟩
    exact br_t (by decide) h
  | succ k ih =>
    intro n hk hn h
    obtain ⟨n, rfl⟩ : ∃ m, n = m + 1 := ⟨n - 1, by omega⟩
    refine br_f (nI_nle (by omega) (by omega)) (qq_DY H hC hk ?_)
    have hl := qq_D_le H cols (k + 1)
    unfold qq_rk at h
    by_cases z : qq_D f cols (k + 1) = 0
    · rw [if_pos z] at h
      exact br_t (by rw [z]; rfl) (nm_r (pk_m1 k) (ih n (by omega) (by omega) h))
    · rw [if_neg z] at h
      exact br_f (nI_ne0 (by omega) (by omega)) h
theorem qq_rX {post : Int32 → Prop} {f g : Nat → Int32} {cols : Nat} (H : qq_ok f) (hC : cols ≤ 4) (h : post (nI (qq_rk (qq_D f cols) 3))) : wpX_rankOfFirst post (f, g) (nI cols) :=
  ⟨4, qq_rkX H hC 3 4 (by omega) (by omega) h⟩
theorem qq_rY {post : Int32 → Prop} {f g : Nat → Int32} {cols : Nat} (H : qq_ok f) (hC : cols = 3 ∨ cols = 4) (h : post (nI (qq_rk (qq_D f cols) 3))) : wpY_rankOf post (f, g) (nI cols) :=
  ⟨4, qq_rkY H hC 3 4 (by omega) (by omega) h⟩
theorem i_vc_rank {k : Nat} {u : SX} {v : SY} (I : i_Rel k u v) (hk : k + 4 ≤ 2048) : wpX_rank (fun r => wpY_rank (fun r' => r' = r ∧ i_Rel (k + 4) u v) v) u := by
  obtain ⟨f, g, h, rfl, rfl, H⟩ := I
  unfold wpX_rank wpY_rank
  dsimp only
  exact qq_rX (cols := 3) H (by omega) (qq_rY (cols := 3) H (by omega) ⟨rfl, f, g, h, rfl, rfl, H⟩)
theorem i_vc_invariant {k : Nat} {u : SX} {v : SY} (I : i_Rel k u v) (hk : k + 4 ≤ 2048) (v1 : Int32) : wpX_invariant (fun r => wpY_invariant (fun r' => r' = r ∧ i_Rel (k + 4) u v) v v1) u v1 := by
  obtain ⟨f, g, h, rfl, rfl, H⟩ := I
  unfold wpX_invariant wpY_invariant
  dsimp only
  have R : i_Rel (k + 4) (f, g) (f, h) := ⟨f, g, h, rfl, rfl, H⟩
  by_cases h1 : v1 < 1
  · exact br_t h1 (br_t h1 ⟨rfl, R⟩)
  · by_cases h3 : v1 ≤ 3
    · obtain ⟨i, hi, rfl⟩ : ∃ i, i < 3 ∧ v1 = nI (i + 1) := by
        rcases pk_ix v1 (n := 4) (by omega) with q | q | ⟨j, hj, rfl⟩
        · exact absurd (Int32.lt_trans q (by decide)) h1
        · exact absurd (Int32.le_trans q h3) (by decide)
        · have : j ≠ 0 := fun e => h1 (by rw [e]; decide)
          exact ⟨j - 1, by omega, by rw [show j - 1 + 1 = j from by omega]⟩
      rw [nI_pred]
      refine br_f h1 (br_t h3 (qq_DX (cols := 3) H (by omega) (by omega) (qq_DX (cols := 3) H (by omega) (by omega) ?_)))
      have hu := qq_D_le H 3 (i + 1)
      have hl := qq_D_le H 3 i
      generalize hU : qq_D f 3 (i + 1) = U at hu ⊢
      generalize hL : qq_D f 3 i = L at hl ⊢
      have Yz : ∀ r : Int32, (L = 0 → r = 0) → (L ≠ 0 → r = nI U / nI L) → wpY_divisor (fun r_3 => ((r_3 = 0 → ((0 : Int32) = r ∧ i_Rel (k + 4) (f, g) (f, h))) ∧ (¬ r_3 = 0 → (wpY_divisor (fun r_7 => (¬ r_3 = 0 ∧ (r_7 / r_3 = r ∧ i_Rel (k + 4) (f, g) (f, h)))) (f, h) (nI (i + 1)) 3)))) (f, h) (nI i) 3 := by
        intro r hz hn
        refine qq_DY (cols := 3) H (by omega) (by omega) ?_
        rw [hL]
        by_cases z : L = 0
        · exact br_t (by rw [z]; rfl) ⟨(hz z).symm, R⟩
        · have zz : ¬ nI L = 0 := nI_ne0 (by omega) (by omega)
          refine br_f zz (qq_DY (cols := 3) H (by omega) (by omega) ⟨zz, ?_, R⟩)
          rw [hU]
          exact (hn z).symm
      by_cases zu : U = 0
      · refine br_t (by rw [zu]; rfl) (br_f h1 (br_t h3 (Yz 0 (fun _ => rfl) fun z => ?_)))
        rw [zu, pk_div (by omega) (by omega) (by omega), Nat.zero_div]
        rfl
      · refine br_f (nI_ne0 (by omega) (by omega)) ?_
        by_cases zl : L = 0
        · exact br_t (by rw [zl]; rfl) (br_f h1 (br_t h3 (Yz 0 (fun _ => rfl) fun z => absurd zl z)))
        · have zz : ¬ nI L = 0 := nI_ne0 (by omega) (by omega)
          exact br_f zz ⟨zz, br_f h1 (br_t h3 (Yz _ (fun z => absurd z zl) fun _ => rfl))⟩
    · exact br_f h1 (br_f h3 (br_f h1 (br_f h3 ⟨rfl, R⟩)))
def qq_sv (f : Nat → Int32) : Int32 := if qq_rk (qq_D f 4) 3 = qq_rk (qq_D f 3) 3 ∧ qq_D f 3 (qq_rk (qq_D f 3) 3) = qq_D f 4 (qq_rk (qq_D f 3) 3) then 1 else 0
theorem qq_svX {post : Int32 → Prop} {f g : Nat → Int32} (H : qq_ok f) (h : post (qq_sv f)) : wpX_solvable post (f, g) := by
  unfold wpX_solvable
  dsimp only
  unfold qq_sv at h
  have l3 := qq_rk_le (qq_D f 3) 3
  have l4 := qq_rk_le (qq_D f 4) 3
  refine qq_rX (cols := 3) H (by omega) (qq_rX (cols := 4) H (by omega) ?_)
  have d3 := qq_D_le H 3 (qq_rk (qq_D f 3) 3)
  have d4 := qq_D_le H 4 (qq_rk (qq_D f 3) 3)
  by_cases e : qq_rk (qq_D f 4) 3 = qq_rk (qq_D f 3) 3
  · refine br_t (by rw [e]) (qq_DX (cols := 3) H (by omega) l3 (qq_DX (cols := 4) H (by omega) l3 ?_))
    by_cases e2 : qq_D f 3 (qq_rk (qq_D f 3) 3) = qq_D f 4 (qq_rk (qq_D f 3) 3)
    · rw [if_pos ⟨e, e2⟩] at h
      exact br_t (by rw [e2]) h
    · rw [if_neg (fun z => e2 z.2)] at h
      exact br_f (fun z => e2 ((nI_eq (by omega) (by omega)).mp z)) h
  · rw [if_neg (fun z => e z.1)] at h
    exact br_f (fun z => e ((nI_eq (by omega) (by omega)).mp z)) h
theorem qq_svY {post : Int32 → Prop} {f g : Nat → Int32} (H : qq_ok f) (h : post (qq_sv f)) : wpY_solvable post (f, g) := by
  unfold wpY_solvable
  dsimp only
  unfold qq_sv at h
  have l3 := qq_rk_le (qq_D f 3) 3
  have l4 := qq_rk_le (qq_D f 4) 3
  refine qq_rY (cols := 3) H (by omega) (qq_rY (cols := 4) H (by omega) ?_)
  have d3 := qq_D_le H 3 (qq_rk (qq_D f 3) 3)
  have d4 := qq_D_le H 4 (qq_rk (qq_D f 3) 3)
  by_cases e : qq_rk (qq_D f 4) 3 = qq_rk (qq_D f 3) 3
  · refine br_t (by rw [e]) (qq_DY (cols := 3) H (by omega) l3 (qq_DY (cols := 4) H (by omega) l3 ?_))
    by_cases e2 : qq_D f 3 (qq_rk (qq_D f 3) 3) = qq_D f 4 (qq_rk (qq_D f 3) 3)
    · rw [if_pos ⟨e, e2⟩] at h
      exact br_t (by rw [e2]) h
    · rw [if_neg (fun z => e2 z.2)] at h
      exact br_f (fun z => e2 ((nI_eq (by omega) (by omega)).mp z)) h
  · rw [if_neg (fun z => e z.1)] at h
    exact br_f (fun z => e ((nI_eq (by omega) (by omega)).mp z)) h
theorem i_vc_solvable {k : Nat} {u : SX} {v : SY} (I : i_Rel k u v) (hk : k + 4 ≤ 2048) : wpX_solvable (fun r => wpY_solvable (fun r' => r' = r ∧ i_Rel (k + 4) u v) v) u := by
  obtain ⟨f, g, h, rfl, rfl, H⟩ := I
  exact qq_svX H (qq_svY H ⟨rfl, f, g, h, rfl, rfl, H⟩)
/-! only -/
theorem qq_remz (x d : Int32) : x - x / d * d = 0 ↔ qq_na d ∣ qq_na x := by
  have z : (0 : Int32).toInt = 0 := by decide
  unfold qq_na
  rw [irem_eq_mod, Int.natAbs_dvd_natAbs, ← Int32.toInt_inj, Int32.toInt_mod, z]
  exact ⟨fun h => Int.dvd_of_tmod_eq_zero h, fun h => Int.tmod_eq_zero_of_dvd h⟩
theorem qq_gchain (d a b c : Nat) : d = Nat.gcd (Nat.gcd (Nat.gcd (Nat.gcd 0 d) a) b) c ↔ d ∣ a ∧ d ∣ b ∧ d ∣ c := by
  constructor
  · intro h
    have k : d ∣ Nat.gcd (Nat.gcd (Nat.gcd (Nat.gcd 0 d) a) b) c := ⟨1, by rw [Nat.mul_one]; exact h.symm⟩
    simp only [Nat.dvd_gcd_iff] at k
    exact ⟨k.1.1.2, k.1.2, k.2⟩
  · intro ⟨h1, h2, h3⟩
    rw [Nat.gcd_zero_left, Nat.gcd_eq_left h1, Nat.gcd_eq_left h2, Nat.gcd_eq_left h3]
theorem qq_cyc (p1 p2 p3 q1 q2 q3 r1 r2 r3 : Int32) : p3 * (q1 * r2 - q2 * r1) - p1 * (q3 * r2 - q2 * r3) + p2 * (q3 * r1 - q1 * r3) = p1 * (q2 * r3 - q3 * r2) - p2 * (q1 * r3 - q3 * r1) + p3 * (q1 * r2 - q2 * r1) := by grind
theorem qq_ant (p1 p2 p3 q1 q2 q3 r1 r2 r3 : Int32) : p1 * (q3 * r2 - q2 * r3) - p3 * (q1 * r2 - q2 * r1) + p2 * (q1 * r3 - q3 * r1) = -(p1 * (q2 * r3 - q3 * r2) - p2 * (q1 * r3 - q3 * r1) + p3 * (q1 * r2 - q2 * r1)) := by grind
theorem qq_m3_cyc (f : Nat → Int32) : qq_m3 f 3 1 2 = qq_m3 f 1 2 3 := qq_cyc _ _ _ _ _ _ _ _ _
theorem qq_m3_ant (f : Nat → Int32) : qq_m3 f 0 3 2 = -qq_m3 f 0 2 3 := qq_ant _ _ _ _ _ _ _ _ _
theorem qq_na_neg {x : Int32} (h : qq_na x ≤ 5000) : qq_na (-x) = qq_na x := by
  unfold qq_na at h ⊢
  rw [Int32.toInt_neg, Int.bmod_eq_of_le (by omega) (by omega), Int.natAbs_neg]
theorem qq_na_ne {x : Int32} (h : ¬ x = 0) : qq_na x ≠ 0 := by
  intro z
  refine h (Int32.toInt_inj.mp ?_)
  rw [show (0 : Int32).toInt = 0 from by decide]
  exact Int.natAbs_eq_zero.mp z
theorem qq_sv_only {f : Nat → Int32} (H : qq_ok f) (hd : ¬ qq_m3 f 0 1 2 = 0) : qq_sv f = if qq_na (qq_m3 f 0 1 2) ∣ qq_na (qq_m3 f 0 1 3) ∧ qq_na (qq_m3 f 0 1 2) ∣ qq_na (qq_m3 f 0 3 2) ∧ qq_na (qq_m3 f 0 1 2) ∣ qq_na (qq_m3 f 3 1 2) then 1 else 0 := by
  have n0 := qq_na_ne hd
  rw [qq_m3_ant, qq_na_neg (qq_n3 H _ _ _), qq_m3_cyc]
  have e3 : qq_D f 3 3 = Nat.gcd 0 (qq_na (qq_m3 f 0 1 2)) := rfl
  have e4 : qq_D f 4 3 = Nat.gcd (Nat.gcd (Nat.gcd (Nat.gcd 0 (qq_na (qq_m3 f 0 1 2))) (qq_na (qq_m3 f 0 1 3))) (qq_na (qq_m3 f 0 2 3))) (qq_na (qq_m3 f 1 2 3)) := rfl
  have z3 : qq_D f 3 3 ≠ 0 := by rw [e3, Nat.gcd_zero_left]; exact n0
  have z4 : qq_D f 4 3 ≠ 0 := by
    rw [e4]
    intro z
    have a := Nat.eq_zero_of_gcd_eq_zero_left (Nat.eq_zero_of_gcd_eq_zero_left (Nat.eq_zero_of_gcd_eq_zero_left z))
    rw [Nat.gcd_zero_left] at a
    exact n0 a
  have k3 : qq_rk (qq_D f 3) 3 = 3 := if_neg z3
  have k4 : qq_rk (qq_D f 4) 3 = 3 := if_neg z4
  unfold qq_sv
  rw [k3, k4, e3, e4, Nat.gcd_zero_left]
  have q := qq_gchain (qq_na (qq_m3 f 0 1 2)) (qq_na (qq_m3 f 0 1 3)) (qq_na (qq_m3 f 0 2 3)) (qq_na (qq_m3 f 1 2 3))
  rw [Nat.gcd_zero_left] at q
  by_cases c : qq_na (qq_m3 f 0 1 2) ∣ qq_na (qq_m3 f 0 1 3) ∧ qq_na (qq_m3 f 0 1 2) ∣ qq_na (qq_m3 f 0 2 3) ∧ qq_na (qq_m3 f 0 1 2) ∣ qq_na (qq_m3 f 1 2 3)
  · rw [if_pos c, if_pos ⟨rfl, q.mpr c⟩]
  · rw [if_neg c, if_neg (fun z => c (q.mp z.2))]
theorem qq_onlyY {post : Int32 → Prop} {f h : Nat → Int32} {c : Int32} (H : qq_ok f) (hd : ¬ qq_m3 f 0 1 2 = 0) (hY : ∀ (post : Int32 → Prop) (v : SY), post 1 → wpY_isPlace post v c)
    (h1 : (qq_na (qq_m3 f 0 1 2) ∣ qq_na (qq_m3 f 0 1 3) ∧ qq_na (qq_m3 f 0 1 2) ∣ qq_na (qq_m3 f 0 3 2) ∧ qq_na (qq_m3 f 0 1 2) ∣ qq_na (qq_m3 f 3 1 2)) → post ((if c = 0 then qq_m3 f 3 1 2 else if c = 1 then qq_m3 f 0 3 2 else qq_m3 f 0 1 3) / qq_m3 f 0 1 2))
    (h2 : ¬ (qq_na (qq_m3 f 0 1 2) ∣ qq_na (qq_m3 f 0 1 3) ∧ qq_na (qq_m3 f 0 1 2) ∣ qq_na (qq_m3 f 0 3 2) ∧ qq_na (qq_m3 f 0 1 2) ∣ qq_na (qq_m3 f 3 1 2)) → post (-1000000)) : wpY_only post (f, h) c := by
  unfold wpY_only wpY_determinant
  dsimp only
  refine qq_Y3 (c := 0) (d := 1) (e := 2) (by omega) (by omega) (by omega) (hY _ _ (br_f (by decide) (br_f hd (qq_svY H ?_))))
  rw [qq_sv_only H hd]
  by_cases q : qq_na (qq_m3 f 0 1 2) ∣ qq_na (qq_m3 f 0 1 3) ∧ qq_na (qq_m3 f 0 1 2) ∣ qq_na (qq_m3 f 0 3 2) ∧ qq_na (qq_m3 f 0 1 2) ∣ qq_na (qq_m3 f 3 1 2)
  · rw [if_pos q]
    have h1 := h1 q
    refine br_f (by decide) ?_
    by_cases c0 : c = 0
    · rw [if_pos c0] at h1
      exact br_t c0 (qq_Y3 (c := 3) (d := 1) (e := 2) (by omega) (by omega) (by omega) ⟨hd, h1⟩)
    · rw [if_neg c0] at h1
      by_cases c1 : c = 1
      · rw [if_pos c1] at h1
        exact br_f c0 (br_t c1 (qq_Y3 (c := 0) (d := 3) (e := 2) (by omega) (by omega) (by omega) ⟨hd, h1⟩))
      · rw [if_neg c1] at h1
        exact br_f c0 (br_f c1 (qq_Y3 (c := 0) (d := 1) (e := 3) (by omega) (by omega) (by omega) ⟨hd, h1⟩))
  · rw [if_neg q]
    exact br_t rfl (h2 q)
theorem i_vc_only {k : Nat} {u : SX} {v : SY} (I : i_Rel k u v) (hk : k + 4 ≤ 2048) (v1 : Int32) : wpX_only (fun r => wpY_only (fun r' => r' = r ∧ i_Rel (k + 4) u v) v v1) u v1 := by
  obtain ⟨f, g, h, rfl, rfl, H⟩ := I
  have R : i_Rel (k + 4) (f, g) (f, h) := ⟨f, g, h, rfl, rfl, H⟩
  unfold wpX_only
  dsimp only
  rcases qq_place v1 with ⟨hX, hY⟩ | ⟨c, hc, e, hX, hY⟩
  · refine hX _ (br_t rfl ?_)
    unfold wpY_only wpY_determinant
    dsimp only
    exact qq_Y3 (c := 0) (d := 1) (e := 2) (by omega) (by omega) (by omega) (hY _ _ (br_t rfl ⟨rfl, R⟩))
  · clear e
    refine hX _ (br_f (by decide) (qq_X3 (c := 0) (d := 1) (e := 2) (by omega) (by omega) (by omega) ?_))
    by_cases hd : qq_m3 f 0 1 2 = 0
    · refine br_t hd ?_
      unfold wpY_only wpY_determinant
      dsimp only
      exact qq_Y3 (c := 0) (d := 1) (e := 2) (by omega) (by omega) (by omega) (hY _ _ (br_f (by decide) (br_t hd ⟨rfl, R⟩)))
    · refine br_f hd (qq_X3 (c := 3) (d := 1) (e := 2) (by omega) (by omega) (by omega) (qq_X3 (c := 0) (d := 3) (e := 2) (by omega) (by omega) (by omega) (qq_X3 (c := 0) (d := 1) (e := 3) (by omega) (by omega) (by omega) ⟨hd, ?_⟩)))
      have rx := qq_remz (qq_m3 f 3 1 2) (qq_m3 f 0 1 2)
      have ry := qq_remz (qq_m3 f 0 3 2) (qq_m3 f 0 1 2)
      have rz := qq_remz (qq_m3 f 0 1 3) (qq_m3 f 0 1 2)
      refine br_c (fun x => ⟨hd, br_c (fun y => ⟨hd, br_c (fun z => ?_) fun z => qq_onlyY H hd hY (fun q => absurd (rz.mpr q.1) z) fun _ => ⟨rfl, R⟩⟩) fun y => qq_onlyY H hd hY (fun q => absurd (ry.mpr q.2.1) y) fun _ => ⟨rfl, R⟩⟩) fun x => qq_onlyY H hd hY (fun q => absurd (rx.mpr q.2.2) x) fun _ => ⟨rfl, R⟩
      have Q := And.intro (rz.mp z) (And.intro (ry.mp y) (rx.mp x))
      by_cases c0 : v1 = 0
      · exact br_t c0 ⟨hd, qq_onlyY H hd hY (fun _ => ⟨by rw [if_pos c0], R⟩) fun q => absurd Q q⟩
      · by_cases c1 : v1 = 1
        · exact br_f c0 (br_t c1 ⟨hd, qq_onlyY H hd hY (fun _ => ⟨by rw [if_neg c0, if_pos c1], R⟩) fun q => absurd Q q⟩)
        · exact br_f c0 (br_f c1 ⟨hd, qq_onlyY H hd hY (fun _ => ⟨by rw [if_neg c0, if_neg c1], R⟩) fun q => absurd Q q⟩)
