/-! Y's divisor -/
def qq_G1 (f : Nat → Int32) (cols a i : Nat) : Nat := if i % 4 < cols then Nat.gcd a (qq_na (f i)) else a
def qq_G2 (f : Nat → Int32) (cols a i : Nat) : Nat := if i / 4 < i % 4 ∧ i % 4 < cols then Nat.gcd (Nat.gcd (Nat.gcd a (qq_na (qq_m2 f 0 1 (i / 4) (i % 4)))) (qq_na (qq_m2 f 0 2 (i / 4) (i % 4)))) (qq_na (qq_m2 f 1 2 (i / 4) (i % 4))) else a
def qq_H3 (f : Nat → Int32) (cols a c d e : Nat) : Nat := if e < cols then Nat.gcd a (qq_na (qq_m3 f c d e)) else a
def qq_G3 (f : Nat → Int32) (cols a i : Nat) : Nat := qq_H3 f cols a (if i = 0 then 1 else 0) (if i ≤ 1 then 2 else 1) (if i ≤ 2 then 3 else 2)
theorem qq_G1_le {f : Nat → Int32} (H : qq_ok f) (cols a i : Nat) (h : a ≤ 5000) : qq_G1 f cols a i ≤ 5000 := by
  unfold qq_G1
  split
  · exact qq_gle h (qq_n1 H _)
  · exact h
theorem qq_G2_le {f : Nat → Int32} (H : qq_ok f) (cols a i : Nat) (h : a ≤ 5000) : qq_G2 f cols a i ≤ 5000 := by
  unfold qq_G2
  split
  · exact qq_gle (qq_gle (qq_gle h (qq_n2 H _ _ _ _)) (qq_n2 H _ _ _ _)) (qq_n2 H _ _ _ _)
  · exact h
theorem qq_H3_le {f : Nat → Int32} (H : qq_ok f) (cols a c d e : Nat) (h : a ≤ 5000) : qq_H3 f cols a c d e ≤ 5000 := by
  unfold qq_H3
  split
  · exact qq_gle h (qq_n3 H _ _ _)
  · exact h
theorem qq_G3_le {f : Nat → Int32} (H : qq_ok f) (cols a i : Nat) (h : a ≤ 5000) : qq_G3 f cols a i ≤ 5000 := qq_H3_le H _ _ _ _ _ h
theorem qq_na0 : qq_na 0 = 0 := by decide
theorem qq_gY0 {post : Int32 → Prop} {f h : Nat → Int32} {g : Nat} (hg : g ≤ 5000) (hp : post (nI g)) : wpY_common post (f, h) (nI g) 0 :=
  qq_gY hg (by rw [qq_na0]; omega) (by rw [qq_na0, Nat.gcd_zero_right]; exact hp)
theorem qq_r4 {i : Nat} (h : i < 2 ^ 31) : nI i - nI i / 4 * 4 = nI (i % 4) := pk_rem (d := 4) h (by omega) (by omega)
theorem qq_q4 {i : Nat} (h : i < 2 ^ 31) : nI i / 4 = nI (i / 4) := pk_div (d := 4) h (by omega) (by omega)
theorem qq_Y13 {post : Int32 → Prop} {f h : Nat → Int32} {cols : Nat} (H : qq_ok f) (hC : cols ≤ 4) : ∀ k i a n, i + k = 12 → k < n → a ≤ 5000 → post (nI (qq_up (qq_G1 f cols) k i a)) → wY_divisor_13 post (nI 1) (nI cols) f h n (nI a) (nI i) := by
  intro k
  induction k with
  | zero =>
    intro i a n hi hn ha hp
    obtain ⟨n, rfl⟩ : ∃ m, n = m + 1 := ⟨n - 1, by omega⟩
    exact br_t rfl (br_t (nI_le (a := 12) (by omega) (by omega)) ⟨1, br_f (by decide) ⟨1, br_f (by decide) hp⟩⟩)
  | succ k ih =>
    intro i a n hi hn ha hp
    obtain ⟨n, rfl⟩ : ∃ m, n = m + 1 := ⟨n - 1, by omega⟩
    refine br_t rfl (br_f (nI_ge (b := 12) (by omega) (by omega)) ⟨by decide, ?_⟩)
    rw [qq_r4 (by omega), nI_clamp (by omega)]
    have hG := qq_G1_le H cols a i ha
    have hp' : post (nI (qq_up (qq_G1 f cols) k (i + 1) (qq_G1 f cols a i))) := hp
    by_cases hc : i % 4 < cols
    · have e : qq_G1 f cols a i = Nat.gcd a (qq_na (f i)) := if_pos hc
      rw [e] at hG hp'
      exact br_f (nI_ge hc (by omega)) ⟨vp_in_nI (by omega) (by omega), qq_gY ha (qq_n1 H _) (nm_r (nI_1 i) (ih (i + 1) _ n (by omega) (by omega) hG hp'))⟩
    · have e : qq_G1 f cols a i = a := if_neg hc
      rw [e] at hp'
      exact br_t (nI_le (by omega) (by omega)) (nm_r (nI_1 i) (ih (i + 1) _ n (by omega) (by omega) ha hp'))
theorem qq_Y55 {post : Int32 → Prop} {f h : Nat → Int32} {cols : Nat} (H : qq_ok f) (hC : cols ≤ 4) : ∀ k i a n, i + k = 16 → k < n → a ≤ 5000 → post (nI (qq_up (qq_G2 f cols) k i a)) → wY_divisor_55 post (nI 2) (nI cols) f h n (nI a) (nI i) := by
  intro k
  induction k with
  | zero =>
    intro i a n hi hn ha hp
    obtain ⟨n, rfl⟩ : ∃ m, n = m + 1 := ⟨n - 1, by omega⟩
    exact br_t rfl (br_t (nI_le (a := 16) (by omega) (by omega)) ⟨1, br_f (by decide) hp⟩)
  | succ k ih =>
    intro i a n hi hn ha hp
    obtain ⟨n, rfl⟩ : ∃ m, n = m + 1 := ⟨n - 1, by omega⟩
    refine br_t rfl (br_f (nI_ge (b := 16) (by omega) (by omega)) ⟨by decide, nm_r (qq_q4 (by omega)) ⟨by decide, nm_r (qq_r4 (by omega)) ?_⟩⟩)
    have hG := qq_G2_le H cols a i ha
    have hp' : post (nI (qq_up (qq_G2 f cols) k (i + 1) (qq_G2 f cols a i))) := hp
    have h4 : i / 4 < 4 := by omega
    have h5 : i % 4 < 4 := by omega
    by_cases hc : i / 4 < i % 4 ∧ i % 4 < cols
    · have e : qq_G2 f cols a i = _ := if_pos hc
      rw [e] at hG hp'
      refine br_f (nI_ge hc.1 (by omega)) (br_f (nI_ge hc.2 (by omega)) ?_)
      refine br_f (by decide) (qq_Y2 (r := 0) (s := 1) (by omega) (by omega) h4 h5 ?_)
      refine br_f (by decide) (qq_Y2 (r := 0) (s := 2) (by omega) (by omega) h4 h5 ?_)
      refine br_f (by decide) (qq_Y2 (r := 1) (s := 2) (by omega) (by omega) h4 h5 ?_)
      refine qq_gY ha (qq_n2 H _ _ _ _) ?_
      refine qq_gY (qq_gle ha (qq_n2 H _ _ _ _)) (qq_n2 H _ _ _ _) ?_
      refine qq_gY (qq_gle (qq_gle ha (qq_n2 H _ _ _ _)) (qq_n2 H _ _ _ _)) (qq_n2 H _ _ _ _) ?_
      exact nm_r (nI_1 i) (ih (i + 1) _ n (by omega) (by omega) hG hp')
    · have e : qq_G2 f cols a i = a := if_neg hc
      rw [e] at hp'
      have w : wY_divisor_96 post (wY_divisor_55 post (nI 2) (nI cols) f h n) (nI 2) (nI cols) (nI a) (nI i) (nI (i / 4)) (nI (i % 4)) f h := by
        refine br_t rfl (br_t rfl (br_t rfl ?_))
        exact qq_gY0 ha (qq_gY0 ha (qq_gY0 ha (nm_r (nI_1 i) (ih (i + 1) _ n (by omega) (by omega) ha hp'))))
      by_cases h1 : i % 4 ≤ i / 4
      · exact br_t (nI_le h1 (by omega)) w
      · exact br_f (nI_ge (by omega) (by omega)) (br_t (nI_le (by omega) (by omega)) w)
theorem qq_Y242 {post : Int32 → Prop} {J : Int32 → Int32 → Prop} {f h : Nat → Int32} {x1 : Int32} {cols a i : Nat} (H : qq_ok f) (hC : cols ≤ 4) (ha : a ≤ 5000) (c d e : Nat) (hc : c < 4) (hd : d < 4) (he : e < 4) (hp : J (nI (qq_H3 f cols a c d e)) (nI (i + 1))) : wY_divisor_242 post J x1 (nI cols) (nI a) (nI i) (nI c) (nI d) (nI e) f h := by
  unfold qq_H3 at hp
  by_cases q : e < cols
  · rw [if_pos q] at hp
    exact br_f (nI_ge q (by omega)) (qq_Y3 hc hd he (qq_gY ha (qq_n3 H _ _ _) (nm_r (nI_1 i) hp)))
  · rw [if_neg q] at hp
    exact br_t (nI_le (by omega) (by omega)) (qq_gY0 ha (nm_r (nI_1 i) hp))
theorem qq_Y195 {post : Int32 → Prop} {f h : Nat → Int32} {cols : Nat} (H : qq_ok f) (hC : cols ≤ 4) (hp : post (nI (qq_up (qq_G3 f cols) 4 0 0))) : wY_divisor_195 post (nI 3) (nI cols) f h 5 (nI 0) (nI 0) := by
  have b0 : (0 : Nat) ≤ 5000 := by omega
  have b1 := qq_G3_le H cols 0 0 b0
  have b2 := qq_G3_le H cols _ 1 b1
  have b3 := qq_G3_le H cols _ 2 b2
  refine br_t rfl (br_f (by decide) (br_t rfl (br_f (by decide) (br_f (by decide) (qq_Y242 H hC b0 1 2 3 (by omega) (by omega) (by omega) ?_)))))
  refine br_t rfl (br_f (by decide) (br_f (by decide) (br_f (by decide) (br_f (by decide) (qq_Y242 H hC b1 0 2 3 (by omega) (by omega) (by omega) ?_)))))
  refine br_t rfl (br_f (by decide) (br_f (by decide) (br_t (by decide) (br_f (by decide) (qq_Y242 H hC b2 0 1 3 (by omega) (by omega) (by omega) ?_)))))
  refine br_t rfl (br_f (by decide) (br_f (by decide) (br_t (by decide) (br_t (by decide) (qq_Y242 H hC b3 0 1 2 (by omega) (by omega) (by omega) ?_)))))
  exact br_t rfl (br_t (by decide) hp)
theorem qq_ac2_3 (a0101 a0102 a0112 a0201 a0202 a0212 a1201 a1202 a1212 : Nat) : Nat.gcd (Nat.gcd (Nat.gcd (Nat.gcd (Nat.gcd (Nat.gcd (Nat.gcd (Nat.gcd (Nat.gcd 0 a0101) a0201) a1201) a0102) a0202) a1202) a0112) a0212) a1212 = Nat.gcd (Nat.gcd (Nat.gcd (Nat.gcd (Nat.gcd (Nat.gcd (Nat.gcd (Nat.gcd (Nat.gcd 0 a0101) a0102) a0112) a0201) a0202) a0212) a1201) a1202) a1212 := by
  ac_rfl
theorem qq_e2_3 (f : Nat → Int32) : qq_up (qq_G2 f 3) 16 0 0 = qq_d2 f 3 := qq_ac2_3 (qq_na (qq_m2 f 0 1 0 1)) (qq_na (qq_m2 f 0 1 0 2)) (qq_na (qq_m2 f 0 1 1 2)) (qq_na (qq_m2 f 0 2 0 1)) (qq_na (qq_m2 f 0 2 0 2)) (qq_na (qq_m2 f 0 2 1 2)) (qq_na (qq_m2 f 1 2 0 1)) (qq_na (qq_m2 f 1 2 0 2)) (qq_na (qq_m2 f 1 2 1 2))
theorem qq_ac2_4 (a0101 a0102 a0103 a0112 a0113 a0123 a0201 a0202 a0203 a0212 a0213 a0223 a1201 a1202 a1203 a1212 a1213 a1223 : Nat) : Nat.gcd (Nat.gcd (Nat.gcd (Nat.gcd (Nat.gcd (Nat.gcd (Nat.gcd (Nat.gcd (Nat.gcd (Nat.gcd (Nat.gcd (Nat.gcd (Nat.gcd (Nat.gcd (Nat.gcd (Nat.gcd (Nat.gcd (Nat.gcd 0 a0101) a0201) a1201) a0102) a0202) a1202) a0103) a0203) a1203) a0112) a0212) a1212) a0113) a0213) a1213) a0123) a0223) a1223 = Nat.gcd (Nat.gcd (Nat.gcd (Nat.gcd (Nat.gcd (Nat.gcd (Nat.gcd (Nat.gcd (Nat.gcd (Nat.gcd (Nat.gcd (Nat.gcd (Nat.gcd (Nat.gcd (Nat.gcd (Nat.gcd (Nat.gcd (Nat.gcd 0 a0101) a0102) a0103) a0112) a0113) a0123) a0201) a0202) a0203) a0212) a0213) a0223) a1201) a1202) a1203) a1212) a1213) a1223 := by
  ac_rfl
theorem qq_e2_4 (f : Nat → Int32) : qq_up (qq_G2 f 4) 16 0 0 = qq_d2 f 4 := qq_ac2_4 (qq_na (qq_m2 f 0 1 0 1)) (qq_na (qq_m2 f 0 1 0 2)) (qq_na (qq_m2 f 0 1 0 3)) (qq_na (qq_m2 f 0 1 1 2)) (qq_na (qq_m2 f 0 1 1 3)) (qq_na (qq_m2 f 0 1 2 3)) (qq_na (qq_m2 f 0 2 0 1)) (qq_na (qq_m2 f 0 2 0 2)) (qq_na (qq_m2 f 0 2 0 3)) (qq_na (qq_m2 f 0 2 1 2)) (qq_na (qq_m2 f 0 2 1 3)) (qq_na (qq_m2 f 0 2 2 3)) (qq_na (qq_m2 f 1 2 0 1)) (qq_na (qq_m2 f 1 2 0 2)) (qq_na (qq_m2 f 1 2 0 3)) (qq_na (qq_m2 f 1 2 1 2)) (qq_na (qq_m2 f 1 2 1 3)) (qq_na (qq_m2 f 1 2 2 3))
theorem qq_ac3_4 (a012 a013 a023 a123 : Nat) : Nat.gcd (Nat.gcd (Nat.gcd (Nat.gcd 0 a123) a023) a013) a012 = Nat.gcd (Nat.gcd (Nat.gcd (Nat.gcd 0 a012) a013) a023) a123 := by
  ac_rfl
theorem qq_e3_4 (f : Nat → Int32) : qq_up (qq_G3 f 4) 4 0 0 = qq_d3 f 4 := qq_ac3_4 (qq_na (qq_m3 f 0 1 2)) (qq_na (qq_m3 f 0 1 3)) (qq_na (qq_m3 f 0 2 3)) (qq_na (qq_m3 f 1 2 3))
theorem qq_e3_3 (f : Nat → Int32) : qq_up (qq_G3 f 3) 4 0 0 = qq_d3 f 3 := rfl
theorem qq_e1_3 (f : Nat → Int32) : qq_up (qq_G1 f 3) 12 0 0 = qq_d1 f 3 := rfl
theorem qq_e1_4 (f : Nat → Int32) : qq_up (qq_G1 f 4) 12 0 0 = qq_d1 f 4 := rfl
theorem qq_DY {post : Int32 → Prop} {f g : Nat → Int32} {cols k : Nat} (H : qq_ok f) (hC : cols = 3 ∨ cols = 4) (hk : k ≤ 3) (h : post (nI (qq_D f cols k))) : wpY_divisor post (f, g) (nI k) (nI cols) := by
  have hC4 : cols ≤ 4 := by omega
  have e1 : qq_up (qq_G1 f cols) 12 0 0 = qq_d1 f cols := by
    rcases hC with rfl | rfl
    · exact qq_e1_3 f
    · exact qq_e1_4 f
  have e2 : qq_up (qq_G2 f cols) 16 0 0 = qq_d2 f cols := by
    rcases hC with rfl | rfl
    · exact qq_e2_3 f
    · exact qq_e2_4 f
  have e3 : qq_up (qq_G3 f cols) 4 0 0 = qq_d3 f cols := by
    rcases hC with rfl | rfl
    · exact qq_e3_3 f
    · exact qq_e3_4 f
  unfold wpY_divisor
  dsimp only
  match k, hk with
  | 0, _ => exact br_t rfl ⟨1, br_f (by decide) ⟨1, br_f (by decide) ⟨1, br_f (by decide) h⟩⟩⟩
  | 1, _ => exact br_f (by decide) ⟨13, qq_Y13 H hC4 12 0 0 13 (by omega) (by omega) (by omega) (by rw [e1]; exact h)⟩
  | 2, _ => exact br_f (by decide) ⟨1, br_f (by decide) ⟨17, qq_Y55 H hC4 16 0 0 17 (by omega) (by omega) (by omega) (by rw [e2]; exact h)⟩⟩
  | 3, _ => exact br_f (by decide) ⟨1, br_f (by decide) ⟨1, br_f (by decide) ⟨5, qq_Y195 H hC4 (by rw [e3]; exact h)⟩⟩⟩
