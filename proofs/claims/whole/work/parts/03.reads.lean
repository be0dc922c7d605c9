theorem i_vc_versions {k : Nat} {u : SX} {v : SY} (I : i_Rel k u v) (hk : k + 4 ≤ 2048) : wpX_versions (fun r => wpY_versions (fun r' => r' = r ∧ i_Rel (k + 4) u v) v) u := by
  have J : i_Rel (k + 4) u v := I
  obtain ⟨vc, dl, ap, db, cp, dr, fr, lt, co, ow, tx, le, ba, dt, rfl, rfl, I, D⟩ := I
  unfold wpX_versions wpY_versions
  exact ⟨rfl, J⟩
theorem i_vc_length {k : Nat} {u : SX} {v : SY} (I : i_Rel k u v) (hk : k + 4 ≤ 2048) (v1 : Int32) : wpX_length (fun r => wpY_length (fun r' => r' = r ∧ i_Rel (k + 4) u v) v v1) u v1 := by
  have J : i_Rel (k + 4) u v := I
  obtain ⟨vc, dl, ap, db, cp, dr, fr, lt, co, ow, tx, le, ba, dt, rfl, rfl, I, D⟩ := I
  have hv : vc ≤ 12 := I.1.2.1
  unfold wpX_length wpY_length
  dsimp only
  rcases ws_ver hv v1 with ⟨w, hw, rfl⟩ | hb
  · have hin : vp_in (nI w) 12 := ws_i (by omega)
    exact ws_X1 hw hv (br_f ws_10 ⟨hin, ws_Y1 hw hv (br_f ws_10 ⟨hin, rfl, J⟩)⟩)
  · exact ws_X0 hb (br_t rfl (ws_Y0 hb (br_t rfl ⟨rfl, J⟩)))
theorem i_vc_base {k : Nat} {u : SX} {v : SY} (I : i_Rel k u v) (hk : k + 4 ≤ 2048) (v1 : Int32) : wpX_base (fun r => wpY_base (fun r' => r' = r ∧ i_Rel (k + 4) u v) v v1) u v1 := by
  have J : i_Rel (k + 4) u v := I
  obtain ⟨vc, dl, ap, db, cp, dr, fr, lt, co, ow, tx, le, ba, dt, rfl, rfl, I, D⟩ := I
  have hv : vc ≤ 12 := I.1.2.1
  unfold wpX_base wpY_base
  dsimp only
  rcases ws_ver hv v1 with ⟨w, hw, rfl⟩ | hb
  · have hin : vp_in (nI w) 12 := ws_i (by omega)
    exact ws_X1 hw hv (br_f ws_10 ⟨hin, ws_Y1 hw hv (br_f ws_10 ⟨hin, rfl, J⟩)⟩)
  · exact ws_X0 hb (br_t rfl (ws_Y0 hb (br_t rfl ⟨rfl, J⟩)))
theorem i_vc_line {k : Nat} {u : SX} {v : SY} (I : i_Rel k u v) (hk : k + 4 ≤ 2048) (v1 : Int32) (v2 : Int32) : wpX_line (fun r => wpY_line (fun r' => r' = r ∧ i_Rel (k + 4) u v) v v1 v2) u v1 v2 := by
  have J : i_Rel (k + 4) u v := I
  obtain ⟨vc, dl, ap, db, cp, dr, fr, lt, co, ow, tx, le, ba, dt, rfl, rfl, I, D⟩ := I
  obtain ⟨r, hr, rX, rY⟩ := ws_at (db := db) (cp := cp) (dr := dr) (fr := fr) (lt := lt) (co := co) (ow := ow) I v1 v2
  unfold wpX_line wpY_line
  dsimp only
  refine rX _ ?_
  rcases hr with rfl | hr
  · exact br_t rfl (rY _ (br_f ws_m1' ⟨rfl, J⟩))
  · exact br_f (ws_lne hr) ⟨hr, rY _ (br_t (ws_l0 hr) ⟨hr, rfl, J⟩)⟩
theorem i_vc_origin {k : Nat} {u : SX} {v : SY} (I : i_Rel k u v) (hk : k + 4 ≤ 2048) (v1 : Int32) (v2 : Int32) : wpX_origin (fun r => wpY_origin (fun r' => r' = r ∧ i_Rel (k + 4) u v) v v1 v2) u v1 v2 := by
  have J : i_Rel (k + 4) u v := I
  obtain ⟨vc, dl, ap, db, cp, dr, fr, lt, co, ow, tx, le, ba, dt, rfl, rfl, I, D⟩ := I
  obtain ⟨r, hr, rX, rY⟩ := ws_at (db := db) (cp := cp) (dr := dr) (fr := fr) (lt := lt) (co := co) (ow := ow) I v1 v2
  unfold wpX_origin wpY_origin
  dsimp only
  refine rX _ ?_
  rcases hr with rfl | hr
  · exact br_t rfl (rY _ (br_f ws_m1' ⟨rfl, J⟩))
  · exact br_f (ws_lne hr) ⟨hr, rY _ (br_t (ws_l0 hr) ⟨hr, rfl, J⟩)⟩
theorem i_vc_ancestors {k : Nat} {u : SX} {v : SY} (I : i_Rel k u v) (hk : k + 4 ≤ 2048) (v1 : Int32) : wpX_ancestors (fun r => wpY_ancestors (fun r' => r' = r ∧ i_Rel (k + 4) u v) v v1) u v1 := by
  have J : i_Rel (k + 4) u v := I
  obtain ⟨vc, dl, ap, db, cp, dr, fr, lt, co, ow, tx, le, ba, dt, rfl, rfl, I, D⟩ := I
  have hv : vc ≤ 12 := I.1.2.1
  unfold wpX_ancestors wpY_ancestors
  dsimp only
  rcases ws_ver hv v1 with ⟨w, hw, rfl⟩ | hb
  · obtain ⟨r, rX, m, rY⟩ := ws_anc (db := db) (cp := cp) (dr := dr) (fr := fr) (lt := lt) (co := co) (ow := ow) I (w + 1) (nI w) 0 (by omega) (Or.inr ⟨w, by omega, rfl⟩)
    exact ws_X1 hw hv (br_f ws_10 ⟨w + 1 + 1, rX _ (ws_Y1 hw hv (br_f ws_10 ⟨m, rY _ ⟨rfl, J⟩⟩))⟩)
  · exact ws_X0 hb (br_t rfl (ws_Y0 hb (br_t rfl ⟨1, br_t ws_m1 ⟨rfl, J⟩⟩)))
theorem i_vc_shared {k : Nat} {u : SX} {v : SY} (I : i_Rel k u v) (hk : k + 4 ≤ 2048) (v1 : Int32) (v2 : Int32) : wpX_shared (fun r => wpY_shared (fun r' => r' = r ∧ i_Rel (k + 4) u v) v v1 v2) u v1 v2 := by
  have J : i_Rel (k + 4) u v := I
  obtain ⟨vc, dl, ap, db, cp, dr, fr, lt, co, ow, tx, le, ba, dt, rfl, rfl, I, D⟩ := I
  have hv : vc ≤ 12 := I.1.2.1
  unfold wpX_shared wpY_shared
  dsimp only
  rcases ws_ver hv v1 with ⟨a, ha, rfl⟩ | hb
  · refine ws_X1 ha hv (br_f ws_10 ?_)
    rcases ws_ver hv v2 with ⟨b, hb, rfl⟩ | hb
    · obtain ⟨l, hl, e, _⟩ := I.2.1 a ha
      obtain ⟨r, rX, rY⟩ := ws_sh (db := db) (cp := cp) (dr := dr) (fr := fr) (lt := lt) (co := co) (ow := ow) I ha hb hl e l 0 0 (by omega)
      exact ws_X1 hb hv (br_f ws_10 ⟨l + 1, rX _ (ws_Y1 ha hv (br_f ws_10 (ws_Y1 hb hv (br_f ws_10 ⟨l + 1, rY _ ⟨rfl, J⟩⟩))))⟩)
    · exact ws_X0 hb (br_t rfl (ws_Y1 ha hv (br_f ws_10 (ws_Y0 hb (br_t rfl ⟨rfl, J⟩)))))
  · exact ws_X0 hb (br_t rfl (ws_Y0 hb (br_t rfl ⟨rfl, J⟩)))
theorem i_vc_placeIn {k : Nat} {u : SX} {v : SY} (I : i_Rel k u v) (hk : k + 4 ≤ 2048) (v1 : Int32) (v2 : Int32) (v3 : Int32) : wpX_placeIn (fun r => wpY_placeIn (fun r' => r' = r ∧ i_Rel (k + 4) u v) v v1 v2 v3) u v1 v2 v3 := by
  have J : i_Rel (k + 4) u v := I
  obtain ⟨vc, dl, ap, db, cp, dr, fr, lt, co, ow, tx, le, ba, dt, rfl, rfl, I, D⟩ := I
  have hv : vc ≤ 12 := I.1.2.1
  obtain ⟨r, hr, rX, rY⟩ := ws_at (db := db) (cp := cp) (dr := dr) (fr := fr) (lt := lt) (co := co) (ow := ow) I v1 v2
  unfold wpX_placeIn wpY_placeIn
  dsimp only
  refine rX _ ?_
  rcases hr with rfl | hr
  · exact br_t rfl (rY _ (br_t ws_m1 ⟨rfl, J⟩))
  · refine br_f (ws_lne hr) ?_
    rcases ws_ver hv v3 with ⟨w, hw, rfl⟩ | hb
    · obtain ⟨q, hq, fX, fY⟩ := ws_findP (db := db) (cp := cp) (dr := dr) (fr := fr) (lt := lt) (co := co) (ow := ow) I hw r
      refine ws_X1 hw hv (br_f ws_10 (fX _ ?_))
      rcases hq with rfl | ⟨p, hp, rfl⟩
      · exact br_t rfl (rY _ (br_f (ws_lnn hr) (ws_Y1 hw hv (br_f ws_10 (fY _ ⟨rfl, J⟩)))))
      · exact br_f (ws_ne (by omega)) (rY _ (br_f (ws_lnn hr) (ws_Y1 hw hv (br_f ws_10 (fY _ ⟨rfl, J⟩)))))
    · exact ws_X0 hb (br_t rfl (rY _ (br_f (ws_lnn hr) (ws_Y0 hb (br_t rfl ⟨rfl, J⟩)))))
theorem i_vc_having {k : Nat} {u : SX} {v : SY} (I : i_Rel k u v) (hk : k + 4 ≤ 2048) (v1 : Int32) (v2 : Int32) : wpX_having (fun r => wpY_having (fun r' => r' = r ∧ i_Rel (k + 4) u v) v v1 v2) u v1 v2 := by
  have J : i_Rel (k + 4) u v := I
  obtain ⟨vc, dl, ap, db, cp, dr, fr, lt, co, ow, tx, le, ba, dt, rfl, rfl, I, D⟩ := I
  have hv1 : 1 ≤ vc := I.1.1
  have hv : vc ≤ 12 := I.1.2.1
  obtain ⟨r, hr, rX, rY⟩ := ws_at (db := db) (cp := cp) (dr := dr) (fr := fr) (lt := lt) (co := co) (ow := ow) I v1 v2
  unfold wpX_having wpY_having
  dsimp only
  refine rX _ ?_
  rcases hr with rfl | hr
  · exact br_t rfl (rY _ ⟨1, br_f (nI_ge (a := 0) (by omega) (by omega)) (br_t ws_m1 ⟨rfl, J⟩)⟩)
  · obtain ⟨q, qX, qY⟩ := ws_hv (db := db) (cp := cp) (dr := dr) (fr := fr) (lt := lt) (co := co) (ow := ow) I (ws_lnn hr) vc 0 0 (by omega)
    exact br_f (ws_lne hr) ⟨vc + 1, qX _ (rY _ ⟨vc + 1, qY _ ⟨rfl, J⟩⟩)⟩
theorem i_vc_draft {k : Nat} {u : SX} {v : SY} (I : i_Rel k u v) (hk : k + 4 ≤ 2048) (v1 : Int32) : wpX_draft (fun r => wpY_draft (fun r' => r' = r ∧ i_Rel (k + 4) u v) v v1) u v1 := by
  have J : i_Rel (k + 4) u v := I
  obtain ⟨vc, dl, ap, db, cp, dr, fr, lt, co, ow, tx, le, ba, dt, rfl, rfl, I, D⟩ := I
  unfold wpX_draft wpY_draft wpX_isDraftOpen wpX_countNewLines
  dsimp only
  rcases D with ⟨rfl, rfl, rfl⟩ | ⟨rfl, b, c, hb, hc, rfl, rfl, rfl, rfl⟩
  · exact br_t rfl (br_t rfl (br_t rfl ⟨rfl, J⟩))
  · refine br_f (ws_ne (by have := I.1.2.1; omega)) (br_f ws_10 ?_)
    by_cases h0 : v1 < 0
    · exact br_t h0 (br_f ws_10 (br_t h0 ⟨rfl, J⟩))
    · refine br_f h0 ?_
      by_cases h2 : v1 ≤ 2
      · refine br_t h2 ?_
        obtain ⟨r, rX, rY⟩ := ws_cnt (db := nI b) (cp := nI c) (dr := 1) (fr := nI b) (co := co) (ow := ow) I v1 dl 0 0 (by omega)
        by_cases z0 : v1 = 0
        · exact br_t z0 (br_f ws_10 (br_f h0 (br_t h2 ⟨dl + 1, rY _ (br_t z0 ⟨rfl, J⟩)⟩)))
        · refine br_f z0 ⟨dl + 1, rX _ ?_⟩
          by_cases z1 : v1 = 1
          · exact br_t z1 (br_f ws_10 (br_f h0 (br_t h2 ⟨dl + 1, rY _ (br_f z0 (br_t z1 ⟨rfl, J⟩))⟩)))
          · exact br_f z1 (br_f ws_10 (br_f h0 (br_t h2 ⟨dl + 1, rY _ (br_f z0 (br_f z1 ⟨rfl, J⟩))⟩)))
      · exact br_f h2 (br_f ws_10 (br_f h0 (br_f h2 ⟨rfl, J⟩)))
