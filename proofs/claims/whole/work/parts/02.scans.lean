section
variable {vc dl ap : Nat} {db cp dr fr lt : Int32} {co ow tx le ba dt : Nat → Int32}
theorem ws_find {w l : Nat} (hw : w < 12) (hl : l ≤ 12) (e : le w = nI l) (x : Int32) : ∀ d j : Nat, j + d = l → ∃ r : Int32, (r = -1 ∨ ∃ p, p < 12 ∧ r = nI p) ∧ (∀ post : Int32 → Prop, post r → wX_placeOf_2 post x (nI w) (nI vc) (nI dl) db cp (nI ap) co ow tx le ba dt (d + 1) (nI j)) ∧ (∀ post : Int32 → Prop, post r → wY_find_2 post x (nI w) (nI vc) (nI ap) dr fr lt (nI dl) le ba tx co ow dt (d + 1) (nI j)) := by
  have hin : vp_in (nI w) 12 := ws_i hw
  intro d
  induction d with
  | zero =>
    intro j hj
    have h : le (nI w).toNatClampNeg ≤ nI j := by rw [ws_c hw, e]; exact nI_le (by omega) (by omega)
    exact ⟨-1, Or.inl rfl, fun _ hp => And.intro hin (br_t h hp), fun _ hp => And.intro hin (br_t h hp)⟩
  | succ d ih =>
    intro j hj
    have hj12 : j < 12 := by omega
    have h : ¬ le (nI w).toNatClampNeg ≤ nI j := by rw [ws_c hw, e]; exact nI_ge (by omega) (by omega)
    by_cases z : tx (w * 12 + j) = x
    · have zX : tx (nI w * 12 + nI j).toNatClampNeg = x := by rw [ws_cX hw hj12]; exact z
      have zY : tx (12 * nI w + nI j).toNatClampNeg = x := by rw [ws_cY hw hj12]; exact z
      exact ⟨nI j, Or.inr ⟨j, hj12, rfl⟩, fun _ hp => And.intro hin (br_f h ⟨ws_inX hw hj12, br_t zX hp⟩), fun _ hp => And.intro hin (br_f h ⟨ws_inY hw hj12, br_t zY hp⟩)⟩
    · have zX : ¬ tx (nI w * 12 + nI j).toNatClampNeg = x := by rw [ws_cX hw hj12]; exact z
      have zY : ¬ tx (12 * nI w + nI j).toNatClampNeg = x := by rw [ws_cY hw hj12]; exact z
      obtain ⟨r, hr, rX, rY⟩ := ih (j + 1) (by omega)
      exact ⟨r, hr, fun post hp => And.intro hin (br_f h ⟨ws_inX hw hj12, br_f zX (nm_r (nI_1 j) (rX post hp))⟩), fun post hp => And.intro hin (br_f h ⟨ws_inY hw hj12, br_f zY (nm_r (nI_1 j) (rY post hp))⟩)⟩
theorem ws_findP (I : ws_Inv vc dl ap tx le ba dt) {w : Nat} (hw : w < vc) (x : Int32) : ∃ r : Int32, (r = -1 ∨ ∃ p, p < 12 ∧ r = nI p) ∧ (∀ post : Int32 → Prop, post r → wpX_placeOf post (nI vc, nI dl, db, cp, nI ap, co, ow, tx, le, ba, dt) x (nI w)) ∧ (∀ post : Int32 → Prop, post r → wpY_find post (nI vc, nI ap, dr, fr, lt, nI dl, le, ba, tx, co, ow, dt) x (nI w)) := by
  obtain ⟨⟨_, hv, _, _⟩, H, _⟩ := I
  obtain ⟨l, hl, e, _⟩ := H w hw
  obtain ⟨r, hr, rX, rY⟩ := ws_find (vc := vc) (dl := dl) (ap := ap) (db := db) (cp := cp) (dr := dr) (fr := fr) (lt := lt) (co := co) (ow := ow) (tx := tx) (ba := ba) (dt := dt) (by omega : w < 12) hl e x l 0 (by omega)
  exact ⟨r, hr, fun post hp => Exists.intro (l + 1) (rX post hp), fun post hp => Exists.intro (l + 1) (rY post hp)⟩
theorem ws_at (I : ws_Inv vc dl ap tx le ba dt) (x y : Int32) : ∃ r : Int32, (r = -1 ∨ vp_in r 30) ∧ (∀ post : Int32 → Prop, post r → wpX_lineAt post (nI vc, nI dl, db, cp, nI ap, co, ow, tx, le, ba, dt) x y) ∧ (∀ post : Int32 → Prop, post r → wpY_at post (nI vc, nI ap, dr, fr, lt, nI dl, le, ba, tx, co, ow, dt) x y) := by
  obtain ⟨⟨_, hv, _, _⟩, H, _⟩ := I
  unfold wpX_lineAt wpY_at
  dsimp only
  rcases ws_ver hv x with ⟨w, hw, rfl⟩ | hb
  · have hw12 : w < 12 := by omega
    have hin : vp_in (nI w) 12 := ws_i hw12
    by_cases hy : y < 0
    · exact ⟨-1, Or.inl rfl, fun _ hp => ws_X1 hw hv (br_f ws_10 (br_t hy hp)), fun _ hp => ws_Y1 hw hv (br_f ws_10 (br_t hy hp))⟩
    · obtain ⟨j, hj, rfl⟩ := nI_of hy
      obtain ⟨l, hl, e, ht⟩ := H w hw
      by_cases z : j < l
      · have hj12 : j < 12 := by omega
        have zX : nI j < le (nI w).toNatClampNeg := by rw [ws_c hw12, e]; exact nI_lt z (by omega)
        have zY : ¬ le (nI w).toNatClampNeg ≤ nI j := by rw [ws_c hw12, e]; exact nI_ge z (by omega)
        exact ⟨tx (w * 12 + j), Or.inr (ht j z), fun _ hp => ws_X1 hw hv (br_f ws_10 (br_f hy ⟨hin, br_t zX ⟨ws_inX hw12 hj12, by rw [ws_cX hw12 hj12]; exact hp⟩⟩)), fun _ hp => ws_Y1 hw hv (br_f ws_10 (br_f hy ⟨hin, br_f zY ⟨ws_inY hw12 hj12, by rw [ws_cY hw12 hj12]; exact hp⟩⟩))⟩
      · have zX : ¬ nI j < le (nI w).toNatClampNeg := by rw [ws_c hw12, e]; exact nI_nlt (by omega) hj
        have zY : le (nI w).toNatClampNeg ≤ nI j := by rw [ws_c hw12, e]; exact nI_le (by omega) hj
        exact ⟨-1, Or.inl rfl, fun _ hp => ws_X1 hw hv (br_f ws_10 (br_f hy ⟨hin, br_f zX hp⟩)), fun _ hp => ws_Y1 hw hv (br_f ws_10 (br_f hy ⟨hin, br_t zY hp⟩))⟩
  · exact ⟨-1, Or.inl rfl, fun _ hp => ws_X0 hb (br_t rfl hp), fun _ hp => ws_Y0 hb (br_t rfl hp)⟩
theorem ws_sh (I : ws_Inv vc dl ap tx le ba dt) {v w l : Nat} (hv : v < vc) (hw : w < vc) (hl : l ≤ 12) (e : le v = nI l) : ∀ (d j : Nat) (c : Int32), j + d = l → ∃ r : Int32, (∀ post : Int32 → Prop, post r → wX_shared_23 post (nI v) (nI w) (nI vc) (nI dl) db cp (nI ap) co ow tx le ba dt (d + 1) c (nI j)) ∧ (∀ post : Int32 → Prop, post r → wY_shared_23 post (nI v) (nI w) (nI vc) (nI ap) dr fr lt (nI dl) le ba tx co ow dt (d + 1) c (nI j)) := by
  have hv12 : v < 12 := by have := I.1.2.1; omega
  have hin : vp_in (nI v) 12 := ws_i hv12
  intro d
  induction d with
  | zero =>
    intro j c hj
    have h : le (nI v).toNatClampNeg ≤ nI j := by rw [ws_c hv12, e]; exact nI_le (by omega) (by omega)
    exact ⟨c, fun _ hp => And.intro hin (br_t h hp), fun _ hp => And.intro hin (br_t h hp)⟩
  | succ d ih =>
    intro j c hj
    have hj12 : j < 12 := by omega
    have h : ¬ le (nI v).toNatClampNeg ≤ nI j := by rw [ws_c hv12, e]; exact nI_ge (by omega) (by omega)
    obtain ⟨r0, hr0, fX, fY⟩ := ws_findP (db := db) (cp := cp) (dr := dr) (fr := fr) (lt := lt) (co := co) (ow := ow) I hw (tx (v * 12 + j))
    rcases hr0 with rfl | ⟨p, hp12, rfl⟩
    · obtain ⟨r, rX, rY⟩ := ih (j + 1) c (by omega)
      exact ⟨r, fun post hp => And.intro hin (br_f h ⟨ws_inX hv12 hj12, by rw [ws_cX hv12 hj12]; exact fX _ (br_t rfl (nm_r (nI_1 j) (rX post hp)))⟩), fun post hp => And.intro hin (br_f h ⟨ws_inY hv12 hj12, by rw [ws_cY hv12 hj12]; exact fY _ (br_t ws_m1 (nm_r (nI_1 j) (rY post hp)))⟩)⟩
    · obtain ⟨r, rX, rY⟩ := ih (j + 1) (c + 1) (by omega)
      exact ⟨r, fun post hp => And.intro hin (br_f h ⟨ws_inX hv12 hj12, by rw [ws_cX hv12 hj12]; exact fX _ (br_f (ws_ne (by omega)) (nm_e (nm_r (nI_1 j) (rX post hp))))⟩), fun post hp => And.intro hin (br_f h ⟨ws_inY hv12 hj12, by rw [ws_cY hv12 hj12]; exact fY _ (br_f (nI_pos (by omega)) (nm_e (nm_r (nI_1 j) (rY post hp))))⟩)⟩
theorem ws_hv (I : ws_Inv vc dl ap tx le ba dt) {x : Int32} (hx : ¬ x < 0) : ∀ (d w : Nat) (s : Int32), w + d = vc → ∃ r : Int32, (∀ post : Int32 → Prop, post r → wX_having_20 post x (nI vc) (nI dl) db cp (nI ap) co ow tx le ba dt (d + 1) s (nI w)) ∧ (∀ post : Int32 → Prop, post r → wY_having_13 post x (nI vc) (nI ap) dr fr lt (nI dl) le ba tx co ow dt (d + 1) s (nI w)) := by
  have hv12 : vc ≤ 12 := I.1.2.1
  intro d
  induction d with
  | zero =>
    intro w s hw
    have h : nI vc ≤ nI w := nI_le (by omega) (by omega)
    exact ⟨s, fun _ hp => br_t h hp, fun _ hp => br_t h hp⟩
  | succ d ih =>
    intro w s hw
    have h : ¬ nI vc ≤ nI w := nI_ge (by omega) (by omega)
    obtain ⟨r0, hr0, fX, fY⟩ := ws_findP (db := db) (cp := cp) (dr := dr) (fr := fr) (lt := lt) (co := co) (ow := ow) I (by omega : w < vc) x
    rcases hr0 with rfl | ⟨p, hp12, rfl⟩
    · obtain ⟨r, rX, rY⟩ := ih (w + 1) s (by omega)
      exact ⟨r, fun post hp => br_f h (fX _ (br_t rfl (nm_r (nI_1 w) (rX post hp)))), fun post hp => br_f h (br_f hx (fY _ (br_t ws_m1 (nm_r (nI_1 w) (rY post hp)))))⟩
    · obtain ⟨r, rX, rY⟩ := ih (w + 1) (s ||| ((1 : Int32) <<< (nI w &&& 31))) (by omega)
      exact ⟨r, fun post hp => br_f h (fX _ (br_f (ws_ne (by omega)) (nm_e (nm_r (nI_1 w) (rX post hp))))), fun post hp => br_f h (br_f hx (fY _ (br_f (nI_pos (by omega)) (nm_e (nm_r (nI_1 w) (rY post hp))))))⟩
def ws_dn : Nat → Int32
  | 0 => -1
  | d + 1 => nI d
theorem ws_dnm (d : Nat) : nI d + (-1) = ws_dn d := by
  cases d with
  | zero => rfl
  | succ d => exact pk_m1 d
theorem ws_anc (I : ws_Inv vc dl ap tx le ba dt) : ∀ (d : Nat) (nx s : Int32), d ≤ vc → (nx = -1 ∨ ∃ b, b < d ∧ nx = nI b) → ∃ r : Int32, (∀ post : Int32 → Prop, post r → wX_ancestors_17 post (nI vc) (nI dl) db cp (nI ap) co ow tx le ba dt (d + 1) s nx (ws_dn d)) ∧ (∃ m : Nat, ∀ post : Int32 → Prop, post r → wY_ancestors_16 post (nI vc) (nI ap) dr fr lt (nI dl) le ba tx co ow dt m s nx) := by
  have hv12 : vc ≤ 12 := I.1.2.1
  intro d
  induction d with
  | zero =>
    intro nx s hd hn
    rcases hn with rfl | ⟨b, hb, _⟩
    · exact ⟨s, fun _ hp => br_t ws_m1 hp, 1, fun _ hp => br_t ws_m1 hp⟩
    · exact absurd hb (Nat.not_lt_zero b)
  | succ d ih =>
    intro nx s hd hn
    have hd12 : d < 12 := by omega
    have hp0 : ¬ nI d < 0 := nI_pos (by omega)
    by_cases z : nI d = nx
    · subst z
      obtain ⟨r, rX, m, rY⟩ := ih (ba d) (s ||| ((1 : Int32) <<< (nI d &&& 31))) (by omega) (I.2.2.1 d (by omega))
      have eb : ba (nI d).toNatClampNeg = ba d := by rw [ws_c hd12]
      exact ⟨r, fun post hp => br_f hp0 (br_t rfl (nm_e ⟨ws_i hd12, nm_r eb (nm_r (ws_dnm d) (rX post hp))⟩)), m + 1, fun post hp => br_f hp0 (nm_e ⟨ws_i hd12, nm_r eb (rY post hp)⟩)⟩
    · have hn' : nx = -1 ∨ ∃ b, b < d ∧ nx = nI b := by
        rcases hn with h | ⟨b, hb, h⟩
        · exact Or.inl h
        · refine Or.inr ⟨b, ?_, h⟩
          have : b ≠ d := fun e => z (by rw [h, e])
          omega
      obtain ⟨r, rX, m, rY⟩ := ih nx s (by omega) hn'
      exact ⟨r, fun post hp => br_f hp0 (br_f z (nm_r (ws_dnm d) (rX post hp))), m, rY⟩
theorem ws_cnt (I : ws_Inv vc dl ap tx le ba dt) (x : Int32) : ∀ (d j : Nat) (c : Int32), j + d = dl → ∃ r : Int32, (∀ post : Int32 → Prop, post r → wX_countNewLines_4 post (nI vc) (nI dl) db cp (nI ap) co ow tx le ba dt (d + 1) c (nI j)) ∧ (∀ post : Int32 → Prop, ((x = 0 → post (nI dl)) ∧ (¬ x = 0 → ((x = 1 → post (nI dl - r)) ∧ (¬ x = 1 → post r)))) → wY_draft_22 post x (nI vc) (nI ap) dr fr cp (nI dl) le ba tx co ow dt (d + 1) c (nI j)) := by
  have hl12 : dl ≤ 12 := I.1.2.2.1
  intro d
  induction d with
  | zero =>
    intro j c hj
    have h : nI dl ≤ nI j := nI_le (by omega) (by omega)
    exact ⟨c, fun _ hp => br_t h hp, fun _ hp => br_t h hp⟩
  | succ d ih =>
    intro j c hj
    have hj12 : j < 12 := by omega
    have h : ¬ nI dl ≤ nI j := nI_ge (by omega) (by omega)
    by_cases z : dt (nI j).toNatClampNeg < cp
    · obtain ⟨r, rX, rY⟩ := ih (j + 1) c (by omega)
      exact ⟨r, fun post hp => br_f h ⟨ws_i hj12, br_t z (nm_r (nI_1 j) (rX post hp))⟩, fun post hp => br_f h ⟨ws_i hj12, br_t z (nm_r (nI_1 j) (rY post hp))⟩⟩
    · obtain ⟨r, rX, rY⟩ := ih (j + 1) (c + 1) (by omega)
      exact ⟨r, fun post hp => br_f h ⟨ws_i hj12, br_f z (nm_e (nm_r (nI_1 j) (rX post hp)))⟩, fun post hp => br_f h ⟨ws_i hj12, br_f z (nm_e (nm_r (nI_1 j) (rY post hp)))⟩⟩
end
