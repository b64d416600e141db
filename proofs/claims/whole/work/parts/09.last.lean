theorem i_vc_imageCount {k : Nat} {u : SX} {v : SY} (I : i_Rel k u v) (hk : k + 4 ≤ 2048) (v1 : Int32) : wpX_imageCount (fun r u' => wpY_imageCount (fun r' v' => r' = r ∧ i_Rel (k + 4) u' v') v v1) u v1 := by
  obtain ⟨f, g, h, rfl, rfl, H⟩ := I
  unfold wpX_imageCount wpY_imageCount
  dsimp only
  rcases qq_mod v1 with ⟨hX, hY⟩ | ⟨m, h0, hm, rfl, hX, hY⟩
  · exact hX _ (br_t rfl (hY _ _ ⟨rfl, f, g, h, rfl, rfl, H⟩))
  · refine hX _ (br_f (by decide) ⟨1729, qq_fg (fun gX zX => ?_) 1728 0 g 1729 (by omega) (by omega) (fun j hj => absurd hj (by omega))⟩)
    refine ⟨m + 1, qq_iX18 h0 hm m 0 (0, gX) (m + 1) (by omega) (by omega) ?_⟩
    refine hY _ _ ⟨1729, qq_iY16 (fun gY zY => ?_) 1728 0 h 1729 (by omega) (by omega) (fun j hj => absurd hj (by omega))⟩
    refine ⟨m * m * m + 1, qq_iY38 h0 hm (m * m * m) 0 gY _ (by omega) (by omega) ⟨1729, ?_⟩⟩
    obtain ⟨eX, cX⟩ := qq_endX (f := f) h0 hm zX
    refine qq_iY127 ⟨?_, f, _, _, rfl, rfl, H⟩ 1728 0 1729 (by omega) (by omega)
    rw [cX, qq_fin h0 hm eX (qq_endY h0 zY)]
