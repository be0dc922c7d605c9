theorem i_vc_open {k : Nat} {u : SX} {v : SY} (I : i_Rel k u v) (hk : k + 4 ≤ 2048) (v1 : Int32) : wpX_open (fun r u' => wpY_open (fun r' v' => r' = r ∧ i_Rel (k + 4) u' v') v v1) u v1 := by
  have J : i_Rel (k + 4) u v := I
  obtain ⟨vc, dl, ap, db, cp, dr, fr, lt, co, ow, tx, le, ba, dt, rfl, rfl, I, D⟩ := I
  obtain ⟨⟨h1, hv, hd, ha⟩, H, B, _⟩ := I
  unfold wpX_open wpY_open wpX_throwDraftAway wpY_discard
  dsimp only
  rcases ws_ver hv v1 with ⟨w, hw, rfl⟩ | hb
  · have hw12 : w < 12 := by omega
    obtain ⟨l, hl, e, ht⟩ := H w hw
    have e' : le (nI w).toNatClampNeg = nI l := by rw [ws_c hw12]; exact e
    have key : ∀ c, c ≤ 30 → cp = nI c → ∃ ds : Nat → Int32, i_Rel (k + 4) (nI vc, nI l, nI w, cp, cp, co, ow, tx, le, ba, ds) (nI vc, nI c, 1, nI w, nI c, nI l, le, ba, tx, co, ow, ds) ∧ (∀ post : Int32 → SX → Prop, post (nI l) (nI vc, nI l, nI w, cp, cp, co, ow, tx, le, ba, ds) → wX_open_31 post (nI w) (nI vc) (nI l) (nI w) cp cp (l + 1) 0 co ow tx le ba dt) ∧ (∀ post : Int32 → SY → Prop, post (nI l) (nI vc, nI c, 1, nI w, nI c, nI l, le, ba, tx, co, ow, ds) → wY_open_45 post (nI w) (nI vc) (nI c) 1 (nI w) (nI c) (nI l) (l + 1) 0 le ba tx co ow dt) := by
      intro c hc ec
      subst ec
      obtain ⟨ds, hs, sX, sY⟩ := ws_op (vc := vc) (dl := l) (ap := c) (db := nI w) (cp := nI c) (dr := 1) (fr := nI w) (lt := nI c) (co := co) (ow := ow) (tx := tx) (le := le) (ba := ba) hw12 hl ht l 0 dt (by omega) (fun i hi => absurd hi (Nat.not_lt_zero i))
      exact ⟨ds, ⟨vc, l, c, nI w, nI c, 1, nI w, nI c, co, ow, tx, le, ba, ds, rfl, rfl, ⟨⟨h1, hv, hl, hc⟩, H, B, hs⟩, Or.inr ⟨rfl, w, c, hw, hc, rfl, rfl, rfl, rfl⟩⟩, sX, sY⟩
    refine ws_X1 hw hv (br_f ws_10 ⟨ws_i hw12, nm_r e' ?_⟩)
    rcases D with ⟨_, rfl, ec⟩ | ⟨rfl, b, c, _, hc, _, _, ec, rfl⟩
    · obtain ⟨ds, K, sX, sY⟩ := key ap ha ec
      exact ⟨l + 1, sX _ (ws_Y1 hw hv (br_f ws_10 (br_t rfl ⟨ws_i hw12, nm_r e' ⟨l + 1, sY _ ⟨rfl, K⟩⟩⟩)))⟩
    · obtain ⟨ds, K, sX, sY⟩ := key c hc ec
      exact ⟨l + 1, sX _ (ws_Y1 hw hv (br_f ws_10 (br_f ws_10 ⟨ws_i hw12, nm_r e' ⟨l + 1, sY _ ⟨rfl, K⟩⟩⟩)))⟩
  · exact ws_X0 hb (br_t rfl (ws_Y0 hb (br_t rfl ⟨rfl, J⟩)))
theorem i_vc_put {k : Nat} {u : SX} {v : SY} (I : i_Rel k u v) (hk : k + 4 ≤ 2048) (v1 : Int32) (v2 : Int32) : wpX_put (fun r u' => wpY_put (fun r' v' => r' = r ∧ i_Rel (k + 4) u' v') v v1 v2) u v1 v2 := by
  have J : i_Rel (k + 4) u v := I
  obtain ⟨vc, dl, ap, db, cp, dr, fr, lt, co, ow, tx, le, ba, dt, rfl, rfl, I, D⟩ := I
  obtain ⟨⟨h1, hv, hd, ha⟩, H, B, T⟩ := I
  unfold wpX_put wpY_put wpX_isDraftOpen
  dsimp only
  rcases D with ⟨rfl, rfl, rfl⟩ | ⟨rfl, b, c, hb, hc, rfl, rfl, rfl, rfl⟩
  · exact br_t rfl (br_t rfl (br_t rfl ⟨rfl, J⟩))
  · refine br_f (ws_ne (by omega)) (br_f ws_10 ?_)
    by_cases c0 : v2 < 0
    · exact br_t c0 (br_f ws_10 (br_t c0 ⟨rfl, J⟩))
    · by_cases c9 : 99 < v2
      · exact br_f c0 (br_t c9 (br_f ws_10 (br_f c0 (br_t c9 ⟨rfl, J⟩))))
      · by_cases i0 : v1 < 0
        · exact br_f c0 (br_f c9 (br_t i0 (br_f ws_10 (br_f c0 (br_f c9 (br_t i0 ⟨rfl, J⟩))))))
        · refine br_f c0 (br_f c9 (br_f i0 ?_))
          by_cases il : v1 ≤ nI dl
          · refine br_t il ?_
            by_cases l12 : (12 : Int32) ≤ nI dl
            · exact br_t l12 (br_f ws_10 (br_f c0 (br_f c9 (br_f i0 (br_t il (br_t l12 ⟨rfl, J⟩))))))
            · refine br_f l12 ?_
              by_cases a30 : nI ap < 30
              · obtain ⟨i, hi, rfl⟩ := nI_of i0
                have il' : i ≤ dl := (nI_leI hi (by omega)).mp il
                have l12' : dl < 12 := by
                  by_cases z : dl < 12
                  · exact z
                  · exact absurd (nI_le (a := 12) (b := dl) (by omega) (by omega)) l12
                have a30' : ap < 30 := (nI_ltI (a := ap) (b := 30) (by omega) (by omega)).mp a30
                obtain ⟨ds, hs, sX, sY⟩ := ws_put (vc := vc) (dl := dl) (ap := ap) (db := nI b) (cp := nI c) (dr := 1) (fr := nI b) (lt := nI c) (co := co) (ow := ow) (tx := tx) (le := le) (ba := ba) (i := i) (x := v2) l12' a30' (dl - i) dl dt (by omega) (by omega) (fun q hq hn => T q (by omega))
                exact br_t a30 ⟨dl - i + 1, sX _ (br_f ws_10 (br_f c0 (br_f c9 (br_f i0 (br_t il (br_f l12 (br_t a30 ⟨dl - i + 1, sY _ ⟨rfl, vc, dl + 1, ap + 1, nI b, nI c, 1, nI b, nI c, _, _, tx, le, ba, ds, rfl, rfl, ⟨⟨h1, hv, by omega, by omega⟩, H, B, hs⟩, Or.inr ⟨rfl, b, c, hb, hc, rfl, rfl, rfl, rfl⟩⟩⟩)))))))⟩
              · exact br_f a30 (br_f ws_10 (br_f c0 (br_f c9 (br_f i0 (br_t il (br_f l12 (br_f a30 ⟨rfl, J⟩)))))))
          · exact br_f il (br_f ws_10 (br_f c0 (br_f c9 (br_f i0 (br_f il ⟨rfl, J⟩)))))
theorem i_vc_cut {k : Nat} {u : SX} {v : SY} (I : i_Rel k u v) (hk : k + 4 ≤ 2048) (v1 : Int32) : wpX_cut (fun r u' => wpY_cut (fun r' v' => r' = r ∧ i_Rel (k + 4) u' v') v v1) u v1 := by
  have J : i_Rel (k + 4) u v := I
  obtain ⟨vc, dl, ap, db, cp, dr, fr, lt, co, ow, tx, le, ba, dt, rfl, rfl, I, D⟩ := I
  obtain ⟨⟨h1, hv, hd, ha⟩, H, B, T⟩ := I
  unfold wpX_cut wpY_cut wpX_isDraftOpen
  dsimp only
  rcases D with ⟨rfl, rfl, rfl⟩ | ⟨rfl, b, c, hb, hc, rfl, rfl, rfl, rfl⟩
  · exact br_t rfl (br_t rfl (br_t rfl ⟨rfl, J⟩))
  · refine br_f (ws_ne (by omega)) (br_f ws_10 ?_)
    by_cases i0 : v1 < 0
    · exact br_t i0 (br_f ws_10 (br_t i0 ⟨rfl, J⟩))
    · refine br_f i0 ?_
      by_cases il : v1 < nI dl
      · obtain ⟨i, hi, rfl⟩ := nI_of i0
        have il' : i < dl := (nI_ltI hi (by omega)).mp il
        obtain ⟨m, rfl⟩ : ∃ m, dl = m + 1 := ⟨dl - 1, by omega⟩
        have hi12 : i < 12 := by omega
        have ei : dt (nI i).toNatClampNeg = dt i := by rw [ws_c hi12]
        have hx : vp_in (dt i) 30 := T i il'
        have hx' : vp_in (dt (nI i).toNatClampNeg) 30 := by rw [ei]; exact hx
        have ec : co (dt (nI i).toNatClampNeg).toNatClampNeg = co (dt i).toNatClampNeg := by rw [ei]
        obtain ⟨ds, hs, sX, sY⟩ := ws_cut (vc := vc) (dl := m) (ap := ap) (db := nI b) (cp := nI c) (dr := 1) (fr := nI b) (lt := nI c) (co := co) (ow := ow) (tx := tx) (le := le) (ba := ba) (x := dt i) hx (by omega) (m - i) i dt (by omega) (fun q hq => T q hq)
        exact br_t il ⟨ws_i hi12, nm_r ei (nm_r (nI_pred m) ⟨m - i + 1, sX _ (br_f ws_10 (br_f i0 (br_t il ⟨ws_i hi12, hx', nm_r ec (nm_r (nI_pred m) ⟨m - i + 1, sY _ ⟨rfl, vc, m, ap, nI b, nI c, 1, nI b, nI c, co, ow, tx, le, ba, ds, rfl, rfl, ⟨⟨h1, hv, by omega, ha⟩, H, B, hs⟩, Or.inr ⟨rfl, b, c, hb, hc, rfl, rfl, rfl, rfl⟩⟩⟩)⟩)))⟩)⟩
      · exact br_f il (br_f ws_10 (br_f i0 (br_f il ⟨rfl, J⟩)))
theorem i_vc_close {k : Nat} {u : SX} {v : SY} (I : i_Rel k u v) (hk : k + 4 ≤ 2048) : wpX_close (fun r u' => wpY_close (fun r' v' => r' = r ∧ i_Rel (k + 4) u' v') v) u := by
  have J : i_Rel (k + 4) u v := I
  obtain ⟨vc, dl, ap, db, cp, dr, fr, lt, co, ow, tx, le, ba, dt, rfl, rfl, I, D⟩ := I
  obtain ⟨⟨h1, hv, hd, ha⟩, H, B, T⟩ := I
  unfold wpX_close wpY_close wpX_isDraftOpen
  dsimp only
  rcases D with ⟨rfl, rfl, rfl⟩ | ⟨rfl, b, c, hb, hc, rfl, rfl, rfl, rfl⟩
  · exact br_t rfl (br_t rfl (br_t rfl ⟨rfl, J⟩))
  · refine br_f (ws_ne (by omega)) (br_f ws_10 ?_)
    by_cases v12 : nI vc < 12
    · have v12' : vc < 12 := (nI_ltI (a := vc) (b := 12) (by omega) (by omega)).mp v12
      have e1 : upd le (nI vc).toNatClampNeg (nI dl) = upd le vc (nI dl) := by rw [ws_c v12']
      have e2 : upd ba (nI vc).toNatClampNeg (nI b) = upd ba vc (nI b) := by rw [ws_c v12']
      obtain ⟨ts, hk', hs, sX, sY⟩ := ws_cls (vc := vc) (dl := dl) (ap := ap) (db := nI b) (cp := nI c) (dr := 1) (fr := nI b) (lt := nI c) (co := co) (ow := ow) (le := le) (ba := ba) (dt := dt) v12' hd T dl 0 tx (by omega) (fun q hq => absurd hq (Nat.not_lt_zero q))
      have H' : ∀ w, w < vc + 1 → ∃ l, l ≤ 12 ∧ upd le vc (nI dl) w = nI l ∧ ∀ j, j < l → vp_in (ts (w * 12 + j)) 30 := by
        intro w hw
        by_cases z : w = vc
        · subst z
          exact ⟨dl, hd, pk_us, hs⟩
        · obtain ⟨l, hl, e, ht⟩ := H w (by omega)
          refine ⟨l, hl, by rw [pk_un z]; exact e, ?_⟩
          intro j hj
          rw [hk' _ (by omega)]
          exact ht j hj
      have B' : ∀ w, w < vc + 1 → upd ba vc (nI b) w = -1 ∨ ∃ b', b' < w ∧ upd ba vc (nI b) w = nI b' := by
        intro w hw
        by_cases z : w = vc
        · subst z
          exact Or.inr ⟨b, hb, pk_us⟩
        · rw [pk_un z]
          exact B w (by omega)
      exact br_t v12 ⟨dl + 1, sX _ (br_f ws_10 (br_t v12 ⟨ws_i v12', nm_r e1 ⟨ws_i v12', nm_r e2 ⟨dl + 1, sY _ _ _ ⟨rfl, vc + 1, dl, ap, -1, nI ap, 0, nI b, nI c, co, ow, ts, upd le vc (nI dl), upd ba vc (nI b), dt, rfl, rfl, ⟨⟨by omega, by omega, hd, ha⟩, H', B', T⟩, Or.inl ⟨rfl, rfl, rfl⟩⟩⟩⟩⟩))⟩
    · exact br_f v12 (br_f ws_10 (br_f v12 ⟨rfl, J⟩))
theorem i_vc_discard {k : Nat} {u : SX} {v : SY} (I : i_Rel k u v) (hk : k + 4 ≤ 2048) : wpX_discard (fun r u' => wpY_discard (fun r' v' => r' = r ∧ i_Rel (k + 4) u' v') v) u := by
  have J : i_Rel (k + 4) u v := I
  obtain ⟨vc, dl, ap, db, cp, dr, fr, lt, co, ow, tx, le, ba, dt, rfl, rfl, I, D⟩ := I
  obtain ⟨⟨h1, hv, hd, ha⟩, H, B, T⟩ := I
  unfold wpX_discard wpY_discard wpX_isDraftOpen wpX_throwDraftAway
  dsimp only
  rcases D with ⟨rfl, rfl, rfl⟩ | ⟨rfl, b, c, hb, hc, rfl, rfl, rfl, rfl⟩
  · exact br_t rfl ⟨rfl, br_t rfl ⟨rfl, J⟩⟩
  · exact br_f (ws_ne (by omega)) ⟨rfl, br_f ws_10 ⟨rfl, vc, dl, c, -1, nI c, 0, nI b, nI c, co, ow, tx, le, ba, dt, rfl, rfl, ⟨⟨h1, hv, hd, hc⟩, H, B, T⟩, Or.inl ⟨rfl, rfl, rfl⟩⟩⟩
