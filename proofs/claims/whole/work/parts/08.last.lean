/-! the questions, X against Y -/
theorem i_vc_pairs {k : Nat} {u : SX} {v : SY} (I : i_Rel k u v) (hk : k + 5 ≤ 2560) : wpX_pairs (fun r => wpY_pairs (fun r' => r' = r ∧ i_Rel (k + 5) u v) v) u := by
  have J := I
  obtain ⟨h, s, p, st, iu, m, a, h1, h2, h3, rfl, rfl, hs, hu⟩ := I
  exact xw_pairs (yw_pairs hu ⟨rfl, J⟩)
theorem i_vc_fixed {k : Nat} {u : SX} {v : SY} (I : i_Rel k u v) (hk : k + 5 ≤ 2560) : wpX_fixed (fun r => wpY_fixed (fun r' => r' = r ∧ i_Rel (k + 5) u v) v) u := by
  have J := I
  obtain ⟨h, s, p, st, iu, m, a, h1, h2, h3, rfl, rfl, hs, hu⟩ := I
  exact xw_fixed (yw_fixed hu ⟨rfl, J⟩)
theorem i_vc_twoSteps {k : Nat} {u : SX} {v : SY} (I : i_Rel k u v) (hk : k + 5 ≤ 2560) : wpX_twoSteps (fun r => wpY_twoSteps (fun r' => r' = r ∧ i_Rel (k + 5) u v) v) u := by
  have J := I
  obtain ⟨h, s, p, st, iu, m, a, h1, h2, h3, rfl, rfl, hs, hu⟩ := I
  exact xw_twoSteps (yw_twoSteps hu ⟨rfl, J⟩)
theorem i_vc_domain {k : Nat} {u : SX} {v : SY} (I : i_Rel k u v) (hk : k + 5 ≤ 2560) : wpX_domain (fun r => wpY_domain (fun r' => r' = r ∧ i_Rel (k + 5) u v) v) u := by
  have J := I
  obtain ⟨h, s, p, st, iu, m, a, h1, h2, h3, rfl, rfl, hs, hu⟩ := I
  unfold wpX_domain
  dsimp only
  refine xw_left (k := 1) (by decide) ?_
  exact yw_domain hu ⟨rfl, J⟩
theorem i_vc_manyValued {k : Nat} {u : SX} {v : SY} (I : i_Rel k u v) (hk : k + 5 ≤ 2560) : wpX_manyValued (fun r => wpY_manyValued (fun r' => r' = r ∧ i_Rel (k + 5) u v) v) u := by
  have J := I
  obtain ⟨h, s, p, st, iu, m, a, h1, h2, h3, rfl, rfl, hs, hu⟩ := I
  unfold wpX_manyValued
  dsimp only
  refine xw_left (k := 2) (by decide) ?_
  exact yw_manyValued hu ⟨rfl, J⟩
theorem i_vc_related {k : Nat} {u : SX} {v : SY} (I : i_Rel k u v) (hk : k + 5 ≤ 2560) (v1 : Int32) (v2 : Int32) (v3 : Int32) (v4 : Int32) : wpX_related (fun r => wpY_related (fun r' => r' = r ∧ i_Rel (k + 5) u v) v v1 v2 v3 v4) u v1 v2 v3 v4 := by
  have J := I
  obtain ⟨h, s, p, st, iu, m, a, h1, h2, h3, rfl, rfl, hs, hu⟩ := I
  obtain ⟨r1, c1, x1, y1⟩ := qv_valid v1 v2
  obtain ⟨r2, c2, x2, y2⟩ := qv_valid v3 v4
  unfold wpX_related wpY_related
  dsimp only
  refine x1 _ ?_
  rcases c1 with rfl | ⟨rfl, w, hw, e⟩
  · exact br_t rfl (y1 _ _ _ _ _ (br_t rfl ⟨rfl, J⟩))
  refine br_f xw_10 (x2 _ ?_)
  rcases c2 with rfl | ⟨rfl, w', hw', e'⟩
  · exact br_t rfl (y1 _ _ _ _ _ (br_f xw_10 (y2 _ _ _ _ _ (br_t rfl ⟨rfl, J⟩))))
  refine br_f xw_10 (xw_wn e (xw_wn e' ⟨vp_in_nI hw (by decide), ?_⟩))
  rw [e, e', nI_clamp (n := w) (by omega)]
  have q : a (31 * 6 + w) = iu w := hu w hw
  refine xw_holds hw' (fun hb => ⟨rfl, y1 _ _ _ _ _ (br_f xw_10 (y2 _ _ _ _ _ (br_f xw_10 ?_)))⟩) (fun hb => ⟨rfl, y1 _ _ _ _ _ (br_f xw_10 (y2 _ _ _ _ _ (br_f xw_10 ?_)))⟩)
  · exact yw_hb (r := 6) (by omega) hw' (fun _ => ⟨rfl, J⟩) (fun z => absurd (by rw [q]; exact hb) z)
  · exact yw_hb (r := 6) (by omega) hw' (fun z => absurd (by rw [← q]; exact z) hb) (fun _ => ⟨rfl, J⟩)
theorem i_vc_images {k : Nat} {u : SX} {v : SY} (I : i_Rel k u v) (hk : k + 5 ≤ 2560) (v1 : Int32) (v2 : Int32) : wpX_images (fun r => wpY_images (fun r' => r' = r ∧ i_Rel (k + 5) u v) v v1 v2) u v1 v2 := by
  have J := I
  obtain ⟨h, s, p, st, iu, m, a, h1, h2, h3, rfl, rfl, hs, hu⟩ := I
  obtain ⟨r1, c1, x1, y1⟩ := qv_valid v1 v2
  unfold wpX_images wpY_images
  dsimp only
  refine x1 _ ?_
  rcases c1 with rfl | ⟨rfl, w, hw, e⟩
  · exact br_t rfl (y1 _ _ _ _ _ (br_t rfl ⟨rfl, J⟩))
  refine br_f xw_10 (xw_wn e ⟨vp_in_nI hw (by decide), ?_⟩)
  rw [e, nI_clamp (n := w) (by omega)]
  refine xw_size (y1 _ _ _ _ _ (br_f xw_10 (yw_imagesOf hw ?_)))
  rw [hu w hw]
  exact ⟨rfl, J⟩
theorem i_vc_sources {k : Nat} {u : SX} {v : SY} (I : i_Rel k u v) (hk : k + 5 ≤ 2560) (v1 : Int32) (v2 : Int32) : wpX_sources (fun r => wpY_sources (fun r' => r' = r ∧ i_Rel (k + 5) u v) v v1 v2) u v1 v2 := by
  have J := I
  obtain ⟨h, s, p, st, iu, m, a, h1, h2, h3, rfl, rfl, hs, hu⟩ := I
  obtain ⟨r1, c1, x1, y1⟩ := qv_valid v1 v2
  unfold wpX_sources wpY_sources
  dsimp only
  refine x1 _ ?_
  rcases c1 with rfl | ⟨rfl, w, hw, e⟩
  · exact br_t rfl (y1 _ _ _ _ _ (br_t rfl ⟨rfl, J⟩))
  refine br_f xw_10 (xw_wn e ?_)
  refine xw_src hw ?_
  refine y1 _ _ _ _ _ (br_f xw_10 ?_)
  exact yw_src hu e hw ⟨rfl, J⟩
theorem i_vc_image {k : Nat} {u : SX} {v : SY} (I : i_Rel k u v) (hk : k + 5 ≤ 2560) (v1 : Int32) (v2 : Int32) (v3 : Int32) : wpX_image (fun r => wpY_image (fun r' => r' = r ∧ i_Rel (k + 5) u v) v v1 v2 v3) u v1 v2 v3 := by
  have J := I
  obtain ⟨h, s, p, st, iu, m, a, h1, h2, h3, rfl, rfl, hs, hu⟩ := I
  obtain ⟨r1, c1, x1, y1⟩ := qv_valid v1 v2
  unfold wpX_image wpY_image
  dsimp only
  refine x1 _ ?_
  rcases c1 with rfl | ⟨rfl, w, hw, e⟩
  · exact br_t rfl (y1 _ _ _ _ _ (br_t rfl ⟨rfl, J⟩))
  refine br_f xw_10 (xw_wn e ?_)
  obtain ⟨r, rX, rY⟩ := qi_scan (d := nI h) (s := nI s) (g := nI p) (h := nI h) (t := nI s) (p := nI p) (st := st) (m := m) (k := v3) hu e hw 31 0 0 rfl
  refine ⟨32, rX _ ?_⟩
  refine y1 _ _ _ _ _ (br_f xw_10 ?_)
  exact ⟨32, rY _ ⟨rfl, J⟩⟩
