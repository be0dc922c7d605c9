section
theorem pk_us {f : Nat → Int32} {k : Nat} {x : Int32} : upd f k x k = x := if_pos rfl
theorem pk_un {f : Nat → Int32} {k j : Nat} {x : Int32} (h : j ≠ k) : upd f k x j = f j := if_neg h
theorem pk_m1 (n : Nat) : nI (n + 1) + (-1) = nI n := by
  rw [← nI_1, Int32.add_assoc, show (1 : Int32) + (-1) = 0 from rfl, Int32.add_zero]
theorem pk_mul (a b : Nat) : nI a * nI b = nI (a * b) := (Int32.ofNat_mul a b).symm
theorem ws_12 : (12 : Int32) = nI 12 := rfl
theorem ws_ix (v j : Nat) : nI v * 12 + nI j = nI (v * 12 + j) := by rw [ws_12, pk_mul, nI_add]
theorem ws_iy (v j : Nat) : 12 * nI v + nI j = nI (v * 12 + j) := by rw [Int32.mul_comm, ws_ix]
theorem ws_inX {v j : Nat} (hv : v < 12) (hj : j < 12) : vp_in (nI v * 12 + nI j) 144 := by
  rw [ws_ix]; exact vp_in_nI (by omega) (by omega)
theorem ws_inY {v j : Nat} (hv : v < 12) (hj : j < 12) : vp_in (12 * nI v + nI j) 144 := by
  rw [ws_iy]; exact vp_in_nI (by omega) (by omega)
theorem ws_cX {v j : Nat} (hv : v < 12) (hj : j < 12) : (nI v * 12 + nI j).toNatClampNeg = v * 12 + j := by
  rw [ws_ix]; exact nI_clamp (by omega)
theorem ws_cY {v j : Nat} (hv : v < 12) (hj : j < 12) : (12 * nI v + nI j).toNatClampNeg = v * 12 + j := by
  rw [ws_iy]; exact nI_clamp (by omega)
theorem ws_c {v : Nat} (hv : v < 12) : (nI v).toNatClampNeg = v := nI_clamp (by omega)
theorem ws_i {v : Nat} (hv : v < 12) : vp_in (nI v) 12 := vp_in_nI hv (by omega)
theorem ws_10 : ¬ (1 : Int32) = 0 := by decide
theorem ws_m1 : (-1 : Int32) < 0 := by decide
theorem ws_m1' : ¬ (0 : Int32) ≤ -1 := by decide
theorem ws_ne {b : Nat} (h : b < 100) : ¬ nI b = -1 := by
  intro e
  have p : ¬ nI b < 0 := nI_pos (by omega)
  rw [e] at p
  exact p ws_m1
theorem ws_lne {x : Int32} (h : vp_in x 30) : ¬ x = -1 := by
  obtain ⟨j, hj, rfl⟩ := vp_in_of h (by omega)
  exact ws_ne (by omega)
theorem ws_lnn {x : Int32} (h : vp_in x 30) : ¬ x < 0 := by
  obtain ⟨j, hj, rfl⟩ := vp_in_of h (by omega)
  exact nI_pos (by omega)
theorem ws_l0 {x : Int32} (h : vp_in x 30) : 0 ≤ x := by
  obtain ⟨j, hj, rfl⟩ := vp_in_of h (by omega)
  exact nI_pos' (by omega)
/-- what holds of the parts that both sides keep alike -/
def ws_Inv (vc dl ap : Nat) (tx le ba dt : Nat → Int32) : Prop :=
  (1 ≤ vc ∧ vc ≤ 12 ∧ dl ≤ 12 ∧ ap ≤ 30) ∧
  (∀ w, w < vc → ∃ l, l ≤ 12 ∧ le w = nI l ∧ ∀ j, j < l → vp_in (tx (w * 12 + j)) 30) ∧
  (∀ w, w < vc → ba w = -1 ∨ ∃ b, b < w ∧ ba w = nI b) ∧
  (∀ j, j < dl → vp_in (dt j) 30)
/-- the draft's marks: none, or one from version b with c lines before it -/
def ws_Dr (vc ap : Nat) (db cp dr fr lt : Int32) : Prop :=
  (db = -1 ∧ dr = 0 ∧ cp = nI ap) ∨
  (dr = 1 ∧ ∃ b c, b < vc ∧ c ≤ 30 ∧ db = nI b ∧ fr = nI b ∧ cp = nI c ∧ lt = nI c)
def i_Rel (_ : Nat) (u : SX) (v : SY) : Prop :=
  ∃ (vc dl ap : Nat) (db cp dr fr lt : Int32) (co ow tx le ba dt : Nat → Int32),
    u = (nI vc, nI dl, db, cp, nI ap, co, ow, tx, le, ba, dt) ∧
    v = (nI vc, nI ap, dr, fr, lt, nI dl, le, ba, tx, co, ow, dt) ∧
    ws_Inv vc dl ap tx le ba dt ∧ ws_Dr vc ap db cp dr fr lt
theorem i_up {k : Nat} {u : SX} {v : SY} (h : i_Rel k u v) : i_Rel (k + 4) u v := h
theorem i_vc0 : wpX_init (fun u => wpY_init (fun v => i_Rel 0 u v)) := by
  intro a ea b eb
  subst ea eb
  refine ⟨1, 0, 0, -1, 0, 0, 0, 0, _, _, _, _, _, _, rfl, rfl, ⟨⟨by omega, by omega, by omega, by omega⟩, ?_, ?_, ?_⟩, Or.inl ⟨rfl, rfl, rfl⟩⟩
  · intro w _
    exact ⟨0, by omega, rfl, fun j hj => absurd hj (Nat.not_lt_zero j)⟩
  · intro w hw
    have e : w = 0 := by omega
    subst e
    exact Or.inl rfl
  · exact fun j hj => absurd hj (Nat.not_lt_zero j)
section
variable {vc dl ap : Nat} {db cp dr fr lt : Int32} {co ow tx le ba dt : Nat → Int32}
theorem ws_ver (hv : vc ≤ 12) (x : Int32) : (∃ w, w < vc ∧ x = nI w) ∨ (x < 0 ∨ nI vc ≤ x) := by
  by_cases h0 : x < 0
  · exact Or.inr (Or.inl h0)
  · obtain ⟨w, hw, rfl⟩ := nI_of h0
    by_cases h : w < vc
    · exact Or.inl ⟨w, h, rfl⟩
    · exact Or.inr (Or.inr (nI_le (by omega) hw))
theorem ws_X1 {w : Nat} (h : w < vc) (hv : vc ≤ 12) {post : Int32 → Prop} (hp : post 1) : wpX_isVersion post (nI vc, nI dl, db, cp, nI ap, co, ow, tx, le, ba, dt) (nI w) :=
  br_f (nI_pos (by omega)) (br_f (nI_ge h (by omega)) hp)
theorem ws_Y1 {w : Nat} (h : w < vc) (hv : vc ≤ 12) {post : Int32 → Prop} (hp : post 1) : wpY_version post (nI vc, nI ap, dr, fr, lt, nI dl, le, ba, tx, co, ow, dt) (nI w) :=
  br_f (nI_pos (by omega)) (br_f (nI_ge h (by omega)) hp)
theorem ws_X0 {x : Int32} (h : x < 0 ∨ nI vc ≤ x) {post : Int32 → Prop} (hp : post 0) : wpX_isVersion post (nI vc, nI dl, db, cp, nI ap, co, ow, tx, le, ba, dt) x :=
  br_c (fun _ => hp) (fun h0 => br_t (h.resolve_left h0) hp)
theorem ws_Y0 {x : Int32} (h : x < 0 ∨ nI vc ≤ x) {post : Int32 → Prop} (hp : post 0) : wpY_version post (nI vc, nI ap, dr, fr, lt, nI dl, le, ba, tx, co, ow, dt) x :=
  br_c (fun _ => hp) (fun h0 => br_t (h.resolve_left h0) hp)
end
end
section
section
variable {vc dl ap : Nat} {db cp dr fr lt : Int32} {co ow tx le ba dt : Nat → Int32}
theorem ws_find {w l : Nat} (hw : w < 12) (hl : l ≤ 12) (e : le w = nI l) (x : Int32) : ∀ d j : Nat, j + d = l → ∃ r : Int32, (r = -1 ∨ ∃ p, p < 12 ∧ r = nI p) ∧ (∀ post : Int32 → Prop, post r → wX_placeOf_2 post x (nI w) (nI vc) (nI dl) db cp (nI ap) co ow tx le ba dt (d + 1) (nI j)) ∧ (∀ post : Int32 → Prop, post r → wY_find_2 post x (nI w) (nI vc) (nI ap) dr fr lt (nI dl) le ba tx co ow dt (d + 1) (nI j)) := by
  have hin : vp_in (nI w) 12 := ws_i hw
  intro d
  induction d with
  | zero =>
    intro j hj
    have h : le (nI w).toNatClampNeg ≤ nI j := by rw [ws_c hw, e]; exact nI_le (by omega) (by omega)
    exact ⟨-1, Or.inl rfl, fun _ hp => And.intro hin (br_t h hp), fun _ hp => And.intro hin (br_t h hp)⟩
  | succ d ih =>
    intro j hj
    have hj12 : j < 12 := by omega
    have h : ¬ le (nI w).toNatClampNeg ≤ nI j := by rw [ws_c hw, e]; exact nI_ge (by omega) (by omega)
    by_cases z : tx (w * 12 + j) = x
    · have zX : tx (nI w * 12 + nI j).toNatClampNeg = x := by rw [ws_cX hw hj12]; exact z
      have zY : tx (12 * nI w + nI j).toNatClampNeg = x := by rw [ws_cY hw hj12]; exact z
      exact ⟨nI j, Or.inr ⟨j, hj12, rfl⟩, fun _ hp => And.intro hin (br_f h ⟨ws_inX hw hj12, br_t zX hp⟩), fun _ hp => And.intro hin (br_f h ⟨ws_inY hw hj12, br_t zY hp⟩)⟩
    · have zX : ¬ tx (nI w * 12 + nI j).toNatClampNeg = x := by rw [ws_cX hw hj12]; exact z
      have zY : ¬ tx (12 * nI w + nI j).toNatClampNeg = x := by rw [ws_cY hw hj12]; exact z
      obtain ⟨r, hr, rX, rY⟩ := ih (j + 1) (by omega)
      exact ⟨r, hr, fun post hp => And.intro hin (br_f h ⟨ws_inX hw hj12, br_f zX (nm_r (nI_1 j) (rX post hp))⟩), fun post hp => And.intro hin (br_f h ⟨ws_inY hw hj12, br_f zY (nm_r (nI_1 j) (rY post hp))⟩)⟩
theorem ws_findP (I : ws_Inv vc dl ap tx le ba dt) {w : Nat} (hw : w < vc) (x : Int32) : ∃ r : Int32, (r = -1 ∨ ∃ p, p < 12 ∧ r = nI p) ∧ (∀ post : Int32 → Prop, post r → wpX_placeOf post (nI vc, nI dl, db, cp, nI ap, co, ow, tx, le, ba, dt) x (nI w)) ∧ (∀ post : Int32 → Prop, post r → wpY_find post (nI vc, nI ap, dr, fr, lt, nI dl, le, ba, tx, co, ow, dt) x (nI w)) := by
  obtain ⟨⟨_, hv, _, _⟩, H, _⟩ := I
  obtain ⟨l, hl, e, _⟩ := H w hw
  obtain ⟨r, hr, rX, rY⟩ := ws_find (vc := vc) (dl := dl) (ap := ap) (db := db) (cp := cp) (dr := dr) (fr := fr) (lt := lt) (co := co) (ow := ow) (tx := tx) (ba := ba) (dt := dt) (by omega : w < 12) hl e x l 0 (by omega)
  exact ⟨r, hr, fun post hp => Exists.intro (l + 1) (rX post hp), fun post hp => Exists.intro (l + 1) (rY post hp)⟩
theorem ws_at (I : ws_Inv vc dl ap tx le ba dt) (x y : Int32) : ∃ r : Int32, (r = -1 ∨ vp_in r 30) ∧ (∀ post : Int32 → Prop, post r → wpX_lineAt post (nI vc, nI dl, db, cp, nI ap, co, ow, tx, le, ba, dt) x y) ∧ (∀ post : Int32 → Prop, post r → wpY_at post (nI vc, nI ap, dr, fr, lt, nI dl, le, ba, tx, co, ow, dt) x y) := by
  obtain ⟨⟨_, hv, _, _⟩, H, _⟩ := I
  unfold wpX_lineAt wpY_at
  dsimp only
  rcases ws_ver hv x with ⟨w, hw, rfl⟩ | hb
  · have hw12 : w < 12 := by omega
    have hin : vp_in (nI w) 12 := ws_i hw12
    by_cases hy : y < 0
    · exact ⟨-1, Or.inl rfl, fun _ hp => ws_X1 hw hv (br_f ws_10 (br_t hy hp)), fun _ hp => ws_Y1 hw hv (br_f ws_10 (br_t hy hp))⟩
    · obtain ⟨j, hj, rfl⟩ := nI_of hy
      obtain ⟨l, hl, e, ht⟩ := H w hw
      by_cases z : j < l
      · have hj12 : j < 12 := by omega
        have zX : nI j < le (nI w).toNatClampNeg := by rw [ws_c hw12, e]; exact nI_lt z (by omega)
        have zY : ¬ le (nI w).toNatClampNeg ≤ nI j := by rw [ws_c hw12, e]; exact nI_ge z (by omega)
        exact ⟨tx (w * 12 + j), Or.inr (ht j z), fun _ hp => ws_X1 hw hv (br_f ws_10 (br_f hy ⟨hin, br_t zX ⟨ws_inX hw12 hj12, by rw [ws_cX hw12 hj12]; exact hp⟩⟩)), fun _ hp => ws_Y1 hw hv (br_f ws_10 (br_f hy ⟨hin, br_f zY ⟨ws_inY hw12 hj12, by rw [ws_cY hw12 hj12]; exact hp⟩⟩))⟩
      · have zX : ¬ nI j < le (nI w).toNatClampNeg := by rw [ws_c hw12, e]; exact nI_nlt (by omega) hj
        have zY : le (nI w).toNatClampNeg ≤ nI j := by rw [ws_c hw12, e]; exact nI_le (by omega) hj
        exact ⟨-1, Or.inl rfl, fun _ hp => ws_X1 hw hv (br_f ws_10 (br_f hy ⟨hin, br_f zX hp⟩)), fun _ hp => ws_Y1 hw hv (br_f ws_10 (br_f hy ⟨hin, br_t zY hp⟩))⟩
  · exact ⟨-1, Or.inl rfl, fun _ hp => ws_X0 hb (br_t rfl hp), fun _ hp => ws_Y0 hb (br_t rfl hp)⟩
theorem ws_sh (I : ws_Inv vc dl ap tx le ba dt) {v w l : Nat} (hv : v < vc) (hw : w < vc) (hl : l ≤ 12) (e : le v = nI l) : ∀ (d j : Nat) (c : Int32), j + d = l → ∃ r : Int32, (∀ post : Int32 → Prop, post r → wX_shared_23 post (nI v) (nI w) (nI vc) (nI dl) db cp (nI ap) co ow tx le ba dt (d + 1) c (nI j)) ∧ (∀ post : Int32 → Prop, post r → wY_shared_23 post (nI v) (nI w) (nI vc) (nI ap) dr fr lt (nI dl) le ba tx co ow dt (d + 1) c (nI j)) := by
  have hv12 : v < 12 := by have := I.1.2.1; omega
  have hin : vp_in (nI v) 12 := ws_i hv12
  intro d
  induction d with
  | zero =>
    intro j c hj
    have h : le (nI v).toNatClampNeg ≤ nI j := by rw [ws_c hv12, e]; exact nI_le (by omega) (by omega)
    exact ⟨c, fun _ hp => And.intro hin (br_t h hp), fun _ hp => And.intro hin (br_t h hp)⟩
  | succ d ih =>
    intro j c hj
    have hj12 : j < 12 := by omega
    have h : ¬ le (nI v).toNatClampNeg ≤ nI j := by rw [ws_c hv12, e]; exact nI_ge (by omega) (by omega)
    obtain ⟨r0, hr0, fX, fY⟩ := ws_findP (db := db) (cp := cp) (dr := dr) (fr := fr) (lt := lt) (co := co) (ow := ow) I hw (tx (v * 12 + j))
    rcases hr0 with rfl | ⟨p, hp12, rfl⟩
    · obtain ⟨r, rX, rY⟩ := ih (j + 1) c (by omega)
      exact ⟨r, fun post hp => And.intro hin (br_f h ⟨ws_inX hv12 hj12, by rw [ws_cX hv12 hj12]; exact fX _ (br_t rfl (nm_r (nI_1 j) (rX post hp)))⟩), fun post hp => And.intro hin (br_f h ⟨ws_inY hv12 hj12, by rw [ws_cY hv12 hj12]; exact fY _ (br_t ws_m1 (nm_r (nI_1 j) (rY post hp)))⟩)⟩
    · obtain ⟨r, rX, rY⟩ := ih (j + 1) (c + 1) (by omega)
      exact ⟨r, fun post hp => And.intro hin (br_f h ⟨ws_inX hv12 hj12, by rw [ws_cX hv12 hj12]; exact fX _ (br_f (ws_ne (by omega)) (nm_e (nm_r (nI_1 j) (rX post hp))))⟩), fun post hp => And.intro hin (br_f h ⟨ws_inY hv12 hj12, by rw [ws_cY hv12 hj12]; exact fY _ (br_f (nI_pos (by omega)) (nm_e (nm_r (nI_1 j) (rY post hp))))⟩)⟩
theorem ws_hv (I : ws_Inv vc dl ap tx le ba dt) {x : Int32} (hx : ¬ x < 0) : ∀ (d w : Nat) (s : Int32), w + d = vc → ∃ r : Int32, (∀ post : Int32 → Prop, post r → wX_having_20 post x (nI vc) (nI dl) db cp (nI ap) co ow tx le ba dt (d + 1) s (nI w)) ∧ (∀ post : Int32 → Prop, post r → wY_having_13 post x (nI vc) (nI ap) dr fr lt (nI dl) le ba tx co ow dt (d + 1) s (nI w)) := by
  have hv12 : vc ≤ 12 := I.1.2.1
  intro d
  induction d with
  | zero =>
    intro w s hw
    have h : nI vc ≤ nI w := nI_le (by omega) (by omega)
    exact ⟨s, fun _ hp => br_t h hp, fun _ hp => br_t h hp⟩
  | succ d ih =>
    intro w s hw
    have h : ¬ nI vc ≤ nI w := nI_ge (by omega) (by omega)
    obtain ⟨r0, hr0, fX, fY⟩ := ws_findP (db := db) (cp := cp) (dr := dr) (fr := fr) (lt := lt) (co := co) (ow := ow) I (by omega : w < vc) x
    rcases hr0 with rfl | ⟨p, hp12, rfl⟩
    · obtain ⟨r, rX, rY⟩ := ih (w + 1) s (by omega)
      exact ⟨r, fun post hp => br_f h (fX _ (br_t rfl (nm_r (nI_1 w) (rX post hp)))), fun post hp => br_f h (br_f hx (fY _ (br_t ws_m1 (nm_r (nI_1 w) (rY post hp)))))⟩
    · obtain ⟨r, rX, rY⟩ := ih (w + 1) (s ||| ((1 : Int32) <<< (nI w &&& 31))) (by omega)
      exact ⟨r, fun post hp => br_f h (fX _ (br_f (ws_ne (by omega)) (nm_e (nm_r (nI_1 w) (rX post hp))))), fun post hp => br_f h (br_f hx (fY _ (br_f (nI_pos (by omega)) (nm_e (nm_r (nI_1 w) (rY post hp))))))⟩
def ws_dn : Nat → Int32
  | 0 => -1
  | d + 1 => nI d
theorem ws_dnm (d : Nat) : nI d + (-1) = ws_dn d := by
  cases d with
  | zero => rfl
  | succ d => exact pk_m1 d
theorem ws_anc (I : ws_Inv vc dl ap tx le ba dt) : ∀ (d : Nat) (nx s : Int32), d ≤ vc → (nx = -1 ∨ ∃ b, b < d ∧ nx = nI b) → ∃ r : Int32, (∀ post : Int32 → Prop, post r → wX_ancestors_17 post (nI vc) (nI dl) db cp (nI ap) co ow tx le ba dt (d + 1) s nx (ws_dn d)) ∧ (∃ m : Nat, ∀ post : Int32 → Prop, post r → wY_ancestors_16 post (nI vc) (nI ap) dr fr lt (nI dl) le ba tx co ow dt m s nx) := by
  have hv12 : vc ≤ 12 := I.1.2.1
  intro d
  induction d with
  | zero =>
    intro nx s hd hn
    rcases hn with rfl | ⟨b, hb, _⟩
    · exact ⟨s, fun _ hp => br_t ws_m1 hp, 1, fun _ hp => br_t ws_m1 hp⟩
    · exact absurd hb (Nat.not_lt_zero b)
  | succ d ih =>
    intro nx s hd hn
    have hd12 : d < 12 := by omega
    have hp0 : ¬ nI d < 0 := nI_pos (by omega)
    by_cases z : nI d = nx
    · subst z
      obtain ⟨r, rX, m, rY⟩ := ih (ba d) (s ||| ((1 : Int32) <<< (nI d &&& 31))) (by omega) (I.2.2.1 d (by omega))
      have eb : ba (nI d).toNatClampNeg = ba d := by rw [ws_c hd12]
      exact ⟨r, fun post hp => br_f hp0 (br_t rfl (nm_e ⟨ws_i hd12, nm_r eb (nm_r (ws_dnm d) (rX post hp))⟩)), m + 1, fun post hp => br_f hp0 (nm_e ⟨ws_i hd12, nm_r eb (rY post hp)⟩)⟩
    · have hn' : nx = -1 ∨ ∃ b, b < d ∧ nx = nI b := by
        rcases hn with h | ⟨b, hb, h⟩
        · exact Or.inl h
        · refine Or.inr ⟨b, ?_, h⟩
          have : b ≠ d := fun e => z (by rw [h, e])
          omega
      obtain ⟨r, rX, m, rY⟩ := ih nx s (by omega) hn'
      exact ⟨r, fun post hp => br_f hp0 (br_f z (nm_r (ws_dnm d) (rX post hp))), m, rY⟩
theorem ws_cnt (I : ws_Inv vc dl ap tx le ba dt) (x : Int32) : ∀ (d j : Nat) (c : Int32), j + d = dl → ∃ r : Int32, (∀ post : Int32 → Prop, post r → wX_countNewLines_4 post (nI vc) (nI dl) db cp (nI ap) co ow tx le ba dt (d + 1) c (nI j)) ∧ (∀ post : Int32 → Prop, ((x = 0 → post (nI dl)) ∧ (¬ x = 0 → ((x = 1 → post (nI dl - r)) ∧ (¬ x = 1 → post r)))) → wY_draft_22 post x (nI vc) (nI ap) dr fr cp (nI dl) le ba tx co ow dt (d + 1) c (nI j)) := by
  have hl12 : dl ≤ 12 := I.1.2.2.1
  intro d
  induction d with
  | zero =>
    intro j c hj
    have h : nI dl ≤ nI j := nI_le (by omega) (by omega)
    exact ⟨c, fun _ hp => br_t h hp, fun _ hp => br_t h hp⟩
  | succ d ih =>
    intro j c hj
    have hj12 : j < 12 := by omega
    have h : ¬ nI dl ≤ nI j := nI_ge (by omega) (by omega)
    by_cases z : dt (nI j).toNatClampNeg < cp
    · obtain ⟨r, rX, rY⟩ := ih (j + 1) c (by omega)
      exact ⟨r, fun post hp => br_f h ⟨ws_i hj12, br_t z (nm_r (nI_1 j) (rX post hp))⟩, fun post hp => br_f h ⟨ws_i hj12, br_t z (nm_r (nI_1 j) (rY post hp))⟩⟩
    · obtain ⟨r, rX, rY⟩ := ih (j + 1) (c + 1) (by omega)
      exact ⟨r, fun post hp => br_f h ⟨ws_i hj12, br_f z (nm_e (nm_r (nI_1 j) (rX post hp)))⟩, fun post hp => br_f h ⟨ws_i hj12, br_f z (nm_e (nm_r (nI_1 j) (rY post hp)))⟩⟩
end
end
section
theorem i_vc_versions {k : Nat} {u : SX} {v : SY} (I : i_Rel k u v) (hk : k + 4 ≤ 2048) : wpX_versions (fun r => wpY_versions (fun r' => r' = r ∧ i_Rel (k + 4) u v) v) u := by
  have J : i_Rel (k + 4) u v := I
  obtain ⟨vc, dl, ap, db, cp, dr, fr, lt, co, ow, tx, le, ba, dt, rfl, rfl, I, D⟩ := I
  unfold wpX_versions wpY_versions
  exact ⟨rfl, J⟩
theorem i_vc_length {k : Nat} {u : SX} {v : SY} (I : i_Rel k u v) (hk : k + 4 ≤ 2048) (v1 : Int32) : wpX_length (fun r => wpY_length (fun r' => r' = r ∧ i_Rel (k + 4) u v) v v1) u v1 := by
  have J : i_Rel (k + 4) u v := I
  obtain ⟨vc, dl, ap, db, cp, dr, fr, lt, co, ow, tx, le, ba, dt, rfl, rfl, I, D⟩ := I
  have hv : vc ≤ 12 := I.1.2.1
  unfold wpX_length wpY_length
  dsimp only
  rcases ws_ver hv v1 with ⟨w, hw, rfl⟩ | hb
  · have hin : vp_in (nI w) 12 := ws_i (by omega)
    exact ws_X1 hw hv (br_f ws_10 ⟨hin, ws_Y1 hw hv (br_f ws_10 ⟨hin, rfl, J⟩)⟩)
  · exact ws_X0 hb (br_t rfl (ws_Y0 hb (br_t rfl ⟨rfl, J⟩)))
theorem i_vc_base {k : Nat} {u : SX} {v : SY} (I : i_Rel k u v) (hk : k + 4 ≤ 2048) (v1 : Int32) : wpX_base (fun r => wpY_base (fun r' => r' = r ∧ i_Rel (k + 4) u v) v v1) u v1 := by
  have J : i_Rel (k + 4) u v := I
  obtain ⟨vc, dl, ap, db, cp, dr, fr, lt, co, ow, tx, le, ba, dt, rfl, rfl, I, D⟩ := I
  have hv : vc ≤ 12 := I.1.2.1
  unfold wpX_base wpY_base
  dsimp only
  rcases ws_ver hv v1 with ⟨w, hw, rfl⟩ | hb
  · have hin : vp_in (nI w) 12 := ws_i (by omega)
    exact ws_X1 hw hv (br_f ws_10 ⟨hin, ws_Y1 hw hv (br_f ws_10 ⟨hin, rfl, J⟩)⟩)
  · exact ws_X0 hb (br_t rfl (ws_Y0 hb (br_t rfl ⟨rfl, J⟩)))
theorem i_vc_line {k : Nat} {u : SX} {v : SY} (I : i_Rel k u v) (hk : k + 4 ≤ 2048) (v1 : Int32) (v2 : Int32) : wpX_line (fun r => wpY_line (fun r' => r' = r ∧ i_Rel (k + 4) u v) v v1 v2) u v1 v2 := by
  have J : i_Rel (k + 4) u v := I
  obtain ⟨vc, dl, ap, db, cp, dr, fr, lt, co, ow, tx, le, ba, dt, rfl, rfl, I, D⟩ := I
  obtain ⟨r, hr, rX, rY⟩ := ws_at (db := db) (cp := cp) (dr := dr) (fr := fr) (lt := lt) (co := co) (ow := ow) I v1 v2
  unfold wpX_line wpY_line
  dsimp only
  refine rX _ ?_
  rcases hr with rfl | hr
  · exact br_t rfl (rY _ (br_f ws_m1' ⟨rfl, J⟩))
  · exact br_f (ws_lne hr) ⟨hr, rY _ (br_t (ws_l0 hr) ⟨hr, rfl, J⟩)⟩
theorem i_vc_origin {k : Nat} {u : SX} {v : SY} (I : i_Rel k u v) (hk : k + 4 ≤ 2048) (v1 : Int32) (v2 : Int32) : wpX_origin (fun r => wpY_origin (fun r' => r' = r ∧ i_Rel (k + 4) u v) v v1 v2) u v1 v2 := by
  have J : i_Rel (k + 4) u v := I
  obtain ⟨vc, dl, ap, db, cp, dr, fr, lt, co, ow, tx, le, ba, dt, rfl, rfl, I, D⟩ := I
  obtain ⟨r, hr, rX, rY⟩ := ws_at (db := db) (cp := cp) (dr := dr) (fr := fr) (lt := lt) (co := co) (ow := ow) I v1 v2
  unfold wpX_origin wpY_origin
  dsimp only
  refine rX _ ?_
  rcases hr with rfl | hr
  · exact br_t rfl (rY _ (br_f ws_m1' ⟨rfl, J⟩))
  · exact br_f (ws_lne hr) ⟨hr, rY _ (br_t (ws_l0 hr) ⟨hr, rfl, J⟩)⟩
theorem i_vc_ancestors {k : Nat} {u : SX} {v : SY} (I : i_Rel k u v) (hk : k + 4 ≤ 2048) (v1 : Int32) : wpX_ancestors (fun r => wpY_ancestors (fun r' => r' = r ∧ i_Rel (k + 4) u v) v v1) u v1 := by
  have J : i_Rel (k + 4) u v := I
  obtain ⟨vc, dl, ap, db, cp, dr, fr, lt, co, ow, tx, le, ba, dt, rfl, rfl, I, D⟩ := I
  have hv : vc ≤ 12 := I.1.2.1
  unfold wpX_ancestors wpY_ancestors
  dsimp only
  rcases ws_ver hv v1 with ⟨w, hw, rfl⟩ | hb
  · obtain ⟨r, rX, m, rY⟩ := ws_anc (db := db) (cp := cp) (dr := dr) (fr := fr) (lt := lt) (co := co) (ow := ow) I (w + 1) (nI w) 0 (by omega) (Or.inr ⟨w, by omega, rfl⟩)
    exact ws_X1 hw hv (br_f ws_10 ⟨w + 1 + 1, rX _ (ws_Y1 hw hv (br_f ws_10 ⟨m, rY _ ⟨rfl, J⟩⟩))⟩)
  · exact ws_X0 hb (br_t rfl (ws_Y0 hb (br_t rfl ⟨1, br_t ws_m1 ⟨rfl, J⟩⟩)))
theorem i_vc_shared {k : Nat} {u : SX} {v : SY} (I : i_Rel k u v) (hk : k + 4 ≤ 2048) (v1 : Int32) (v2 : Int32) : wpX_shared (fun r => wpY_shared (fun r' => r' = r ∧ i_Rel (k + 4) u v) v v1 v2) u v1 v2 := by
  have J : i_Rel (k + 4) u v := I
  obtain ⟨vc, dl, ap, db, cp, dr, fr, lt, co, ow, tx, le, ba, dt, rfl, rfl, I, D⟩ := I
  have hv : vc ≤ 12 := I.1.2.1
  unfold wpX_shared wpY_shared
  dsimp only
  rcases ws_ver hv v1 with ⟨a, ha, rfl⟩ | hb
  · refine ws_X1 ha hv (br_f ws_10 ?_)
    rcases ws_ver hv v2 with ⟨b, hb, rfl⟩ | hb
    · obtain ⟨l, hl, e, _⟩ := I.2.1 a ha
      obtain ⟨r, rX, rY⟩ := ws_sh (db := db) (cp := cp) (dr := dr) (fr := fr) (lt := lt) (co := co) (ow := ow) I ha hb hl e l 0 0 (by omega)
      exact ws_X1 hb hv (br_f ws_10 ⟨l + 1, rX _ (ws_Y1 ha hv (br_f ws_10 (ws_Y1 hb hv (br_f ws_10 ⟨l + 1, rY _ ⟨rfl, J⟩⟩))))⟩)
    · exact ws_X0 hb (br_t rfl (ws_Y1 ha hv (br_f ws_10 (ws_Y0 hb (br_t rfl ⟨rfl, J⟩)))))
  · exact ws_X0 hb (br_t rfl (ws_Y0 hb (br_t rfl ⟨rfl, J⟩)))
theorem i_vc_placeIn {k : Nat} {u : SX} {v : SY} (I : i_Rel k u v) (hk : k + 4 ≤ 2048) (v1 : Int32) (v2 : Int32) (v3 : Int32) : wpX_placeIn (fun r => wpY_placeIn (fun r' => r' = r ∧ i_Rel (k + 4) u v) v v1 v2 v3) u v1 v2 v3 := by
  have J : i_Rel (k + 4) u v := I
  obtain ⟨vc, dl, ap, db, cp, dr, fr, lt, co, ow, tx, le, ba, dt, rfl, rfl, I, D⟩ := I
  have hv : vc ≤ 12 := I.1.2.1
  obtain ⟨r, hr, rX, rY⟩ := ws_at (db := db) (cp := cp) (dr := dr) (fr := fr) (lt := lt) (co := co) (ow := ow) I v1 v2
  unfold wpX_placeIn wpY_placeIn
  dsimp only
  refine rX _ ?_
  rcases hr with rfl | hr
  · exact br_t rfl (rY _ (br_t ws_m1 ⟨rfl, J⟩))
  · refine br_f (ws_lne hr) ?_
    rcases ws_ver hv v3 with ⟨w, hw, rfl⟩ | hb
    · obtain ⟨q, hq, fX, fY⟩ := ws_findP (db := db) (cp := cp) (dr := dr) (fr := fr) (lt := lt) (co := co) (ow := ow) I hw r
      refine ws_X1 hw hv (br_f ws_10 (fX _ ?_))
      rcases hq with rfl | ⟨p, hp, rfl⟩
      · exact br_t rfl (rY _ (br_f (ws_lnn hr) (ws_Y1 hw hv (br_f ws_10 (fY _ ⟨rfl, J⟩)))))
      · exact br_f (ws_ne (by omega)) (rY _ (br_f (ws_lnn hr) (ws_Y1 hw hv (br_f ws_10 (fY _ ⟨rfl, J⟩)))))
    · exact ws_X0 hb (br_t rfl (rY _ (br_f (ws_lnn hr) (ws_Y0 hb (br_t rfl ⟨rfl, J⟩)))))
theorem i_vc_having {k : Nat} {u : SX} {v : SY} (I : i_Rel k u v) (hk : k + 4 ≤ 2048) (v1 : Int32) (v2 : Int32) : wpX_having (fun r => wpY_having (fun r' => r' = r ∧ i_Rel (k + 4) u v) v v1 v2) u v1 v2 := by
  have J : i_Rel (k + 4) u v := I
  obtain ⟨vc, dl, ap, db, cp, dr, fr, lt, co, ow, tx, le, ba, dt, rfl, rfl, I, D⟩ := I
  have hv1 : 1 ≤ vc := I.1.1
  have hv : vc ≤ 12 := I.1.2.1
  obtain ⟨r, hr, rX, rY⟩ := ws_at (db := db) (cp := cp) (dr := dr) (fr := fr) (lt := lt) (co := co) (ow := ow) I v1 v2
  unfold wpX_having wpY_having
  dsimp only
  refine rX _ ?_
  rcases hr with rfl | hr
  · exact br_t rfl (rY _ ⟨1, br_f (nI_ge (a := 0) (by omega) (by omega)) (br_t ws_m1 ⟨rfl, J⟩)⟩)
  · obtain ⟨q, qX, qY⟩ := ws_hv (db := db) (cp := cp) (dr := dr) (fr := fr) (lt := lt) (co := co) (ow := ow) I (ws_lnn hr) vc 0 0 (by omega)
    exact br_f (ws_lne hr) ⟨vc + 1, qX _ (rY _ ⟨vc + 1, qY _ ⟨rfl, J⟩⟩)⟩
theorem i_vc_draft {k : Nat} {u : SX} {v : SY} (I : i_Rel k u v) (hk : k + 4 ≤ 2048) (v1 : Int32) : wpX_draft (fun r => wpY_draft (fun r' => r' = r ∧ i_Rel (k + 4) u v) v v1) u v1 := by
  have J : i_Rel (k + 4) u v := I
  obtain ⟨vc, dl, ap, db, cp, dr, fr, lt, co, ow, tx, le, ba, dt, rfl, rfl, I, D⟩ := I
  unfold wpX_draft wpY_draft wpX_isDraftOpen wpX_countNewLines
  dsimp only
  rcases D with ⟨rfl, rfl, rfl⟩ | ⟨rfl, b, c, hb, hc, rfl, rfl, rfl, rfl⟩
  · exact br_t rfl (br_t rfl (br_t rfl ⟨rfl, J⟩))
  · refine br_f (ws_ne (by have := I.1.2.1; omega)) (br_f ws_10 ?_)
    by_cases h0 : v1 < 0
    · exact br_t h0 (br_f ws_10 (br_t h0 ⟨rfl, J⟩))
    · refine br_f h0 ?_
      by_cases h2 : v1 ≤ 2
      · refine br_t h2 ?_
        obtain ⟨r, rX, rY⟩ := ws_cnt (db := nI b) (cp := nI c) (dr := 1) (fr := nI b) (co := co) (ow := ow) I v1 dl 0 0 (by omega)
        by_cases z0 : v1 = 0
        · exact br_t z0 (br_f ws_10 (br_f h0 (br_t h2 ⟨dl + 1, rY _ (br_t z0 ⟨rfl, J⟩)⟩)))
        · refine br_f z0 ⟨dl + 1, rX _ ?_⟩
          by_cases z1 : v1 = 1
          · exact br_t z1 (br_f ws_10 (br_f h0 (br_t h2 ⟨dl + 1, rY _ (br_f z0 (br_t z1 ⟨rfl, J⟩))⟩)))
          · exact br_f z1 (br_f ws_10 (br_f h0 (br_t h2 ⟨dl + 1, rY _ (br_f z0 (br_f z1 ⟨rfl, J⟩))⟩)))
      · exact br_f h2 (br_f ws_10 (br_f h0 (br_f h2 ⟨rfl, J⟩)))
end
section
section
variable {vc dl ap : Nat} {db cp dr fr lt : Int32} {co ow tx le ba : Nat → Int32}
theorem ws_op {v : Nat} (hv : v < 12) (hl : dl ≤ 12) (ht : ∀ j, j < dl → vp_in (tx (v * 12 + j)) 30) : ∀ (d j : Nat) (dt : Nat → Int32), j + d = dl → (∀ i, i < j → vp_in (dt i) 30) → ∃ ds : Nat → Int32, (∀ i, i < dl → vp_in (ds i) 30) ∧ (∀ post : Int32 → SX → Prop, post (nI dl) (nI vc, nI dl, db, cp, nI ap, co, ow, tx, le, ba, ds) → wX_open_31 post (nI v) (nI vc) (nI dl) db cp (nI ap) (d + 1) (nI j) co ow tx le ba dt) ∧ (∀ post : Int32 → SY → Prop, post (nI dl) (nI vc, nI ap, dr, fr, lt, nI dl, le, ba, tx, co, ow, ds) → wY_open_45 post (nI v) (nI vc) (nI ap) dr fr lt (nI dl) (d + 1) (nI j) le ba tx co ow dt) := by
  intro d
  induction d with
  | zero =>
    intro j dt hj hd
    have h : nI dl ≤ nI j := nI_le (by omega) (by omega)
    exact ⟨dt, fun i hi => hd i (by omega), fun _ hp => br_t h hp, fun _ hp => br_t h hp⟩
  | succ d ih =>
    intro j dt hj hd
    have hj12 : j < 12 := by omega
    have h : ¬ nI dl ≤ nI j := nI_ge (by omega) (by omega)
    have eX : upd dt (nI j).toNatClampNeg (tx (nI v * 12 + nI j).toNatClampNeg) = upd dt j (tx (v * 12 + j)) := by rw [ws_c hj12, ws_cX hv hj12]
    have eY : upd dt (nI j).toNatClampNeg (tx (12 * nI v + nI j).toNatClampNeg) = upd dt j (tx (v * 12 + j)) := by rw [ws_c hj12, ws_cY hv hj12]
    have hd' : ∀ i, i < j + 1 → vp_in (upd dt j (tx (v * 12 + j)) i) 30 := by
      intro i hi
      by_cases z : i = j
      · subst z; rw [pk_us]; exact ht i (by omega)
      · rw [pk_un z]; exact hd i (by omega)
    obtain ⟨ds, hs, sX, sY⟩ := ih (j + 1) (upd dt j (tx (v * 12 + j))) (by omega) hd'
    exact ⟨ds, hs, fun post hp => br_f h ⟨ws_inX hv hj12, ws_i hj12, nm_r eX (nm_r (nI_1 j) (sX post hp))⟩, fun post hp => br_f h ⟨ws_inY hv hj12, ws_i hj12, nm_r eY (nm_r (nI_1 j) (sY post hp))⟩⟩
theorem ws_put {i : Nat} {x : Int32} (hl : dl < 12) (ha : ap < 30) : ∀ (d j : Nat) (dt : Nat → Int32), j = i + d → j ≤ dl → (∀ q, q ≤ dl → q ≠ j → vp_in (dt q) 30) → ∃ ds : Nat → Int32, (∀ q, q < dl + 1 → vp_in (ds q) 30) ∧ (∀ post : Int32 → SX → Prop, post (nI (dl + 1)) (nI vc, nI (dl + 1), db, cp, nI (ap + 1), upd co ap x, upd ow ap (nI vc), tx, le, ba, ds) → wX_put_57 post (nI i) x (nI vc) (nI dl) db cp (nI ap) (d + 1) (nI j) co ow tx le ba dt) ∧ (∀ post : Int32 → SY → Prop, post (nI (dl + 1)) (nI vc, nI (ap + 1), dr, fr, lt, nI (dl + 1), le, ba, tx, upd co ap x, upd ow ap (nI vc), ds) → wY_put_57 post (nI i) x (nI vc) (nI ap) dr fr lt (nI dl) (d + 1) (nI j) le ba tx co ow dt) := by
  intro d
  induction d with
  | zero =>
    intro j dt hj hjl hd
    have h : nI j ≤ nI i := nI_le (by omega) (by omega)
    have hi12 : i < 12 := by omega
    have ca : (nI ap).toNatClampNeg = ap := nI_clamp (by omega)
    have hai : vp_in (nI ap) 30 := vp_in_nI ha (by omega)
    have e1 : upd co (nI ap).toNatClampNeg x = upd co ap x := by rw [ca]
    have e2 : upd ow (nI ap).toNatClampNeg (nI vc) = upd ow ap (nI vc) := by rw [ca]
    have e3 : upd dt (nI i).toNatClampNeg (nI ap) = upd dt i (nI ap) := by rw [ws_c hi12]
    refine ⟨upd dt i (nI ap), ?_, ?_, ?_⟩
    · intro q hq
      by_cases z : q = i
      · subst z; rw [pk_us]; exact hai
      · rw [pk_un z]; exact hd q (by omega) (by omega)
    · intro post hp
      refine br_t h ?_
      unfold wpX_newLine
      dsimp only
      exact ⟨hai, nm_r e1 ⟨hai, nm_r e2 (nm_r (nI_1 ap) ⟨ws_i hi12, nm_r e3 (nm_r (nI_1 dl) hp)⟩)⟩⟩
    · intro post hp
      exact br_t h ⟨ws_i hi12, nm_r e3 ⟨hai, nm_r e1 ⟨hai, nm_r e2 (nm_r (nI_1 ap) (nm_r (nI_1 dl) hp))⟩⟩⟩
  | succ d ih =>
    intro j dt hj hjl hd
    obtain ⟨m, rfl⟩ : ∃ m, j = m + 1 := ⟨j - 1, by omega⟩
    have h : ¬ nI (m + 1) ≤ nI i := nI_ge (by omega) (by omega)
    have hm12 : m < 12 := by omega
    have hm12' : m + 1 < 12 := by omega
    have hin : vp_in (nI (m + 1) - 1) 12 := by rw [nI_pred]; exact ws_i hm12
    have e : upd dt (nI (m + 1)).toNatClampNeg (dt (nI (m + 1) - 1).toNatClampNeg) = upd dt (m + 1) (dt m) := by rw [nI_pred, ws_c hm12', ws_c hm12]
    have hd' : ∀ q, q ≤ dl → q ≠ m → vp_in (upd dt (m + 1) (dt m) q) 30 := by
      intro q hq hqm
      by_cases z : q = m + 1
      · subst z; rw [pk_us]; exact hd m (by omega) (by omega)
      · rw [pk_un z]; exact hd q hq z
    obtain ⟨ds, hs, sX, sY⟩ := ih m (upd dt (m + 1) (dt m)) (by omega) (by omega) hd'
    exact ⟨ds, hs, fun post hp => br_f h ⟨hin, ws_i hm12', nm_r e (nm_r (pk_m1 m) (sX post hp))⟩, fun post hp => br_f h ⟨hin, ws_i hm12', nm_r e (nm_r (pk_m1 m) (sY post hp))⟩⟩
theorem ws_cut {x : Int32} (hx : vp_in x 30) (hl : dl < 12) : ∀ (d j : Nat) (dt : Nat → Int32), j + d = dl → (∀ q, q < dl + 1 → vp_in (dt q) 30) → ∃ ds : Nat → Int32, (∀ q, q < dl → vp_in (ds q) 30) ∧ (∀ post : Int32 → SX → Prop, post (co x.toNatClampNeg) (nI vc, nI dl, db, cp, nI ap, co, ow, tx, le, ba, ds) → wX_cut_40 post x (nI vc) (nI dl) db cp (nI ap) (d + 1) (nI j) co ow tx le ba dt) ∧ (∀ post : Int32 → SY → Prop, post (co x.toNatClampNeg) (nI vc, nI ap, dr, fr, lt, nI dl, le, ba, tx, co, ow, ds) → wY_cut_45 post (co x.toNatClampNeg) (nI vc) (nI ap) dr fr lt (nI dl) (d + 1) (nI j) le ba tx co ow dt) := by
  intro d
  induction d with
  | zero =>
    intro j dt hj hd
    have h : nI dl ≤ nI j := nI_le (by omega) (by omega)
    exact ⟨dt, fun q hq => hd q (by omega), fun _ hp => br_t h ⟨hx, hp⟩, fun _ hp => br_t h hp⟩
  | succ d ih =>
    intro j dt hj hd
    have hj12 : j < 12 := by omega
    have hj12' : j + 1 < 12 := by omega
    have h : ¬ nI dl ≤ nI j := nI_ge (by omega) (by omega)
    have hin : vp_in (nI j + 1) 12 := by rw [nI_1]; exact ws_i hj12'
    have e : upd dt (nI j).toNatClampNeg (dt (nI j + 1).toNatClampNeg) = upd dt j (dt (j + 1)) := by rw [nI_1, ws_c hj12, ws_c hj12']
    have hd' : ∀ q, q < dl + 1 → vp_in (upd dt j (dt (j + 1)) q) 30 := by
      intro q hq
      by_cases z : q = j
      · subst z; rw [pk_us]; exact hd (q + 1) (by omega)
      · rw [pk_un z]; exact hd q hq
    obtain ⟨ds, hs, sX, sY⟩ := ih (j + 1) (upd dt j (dt (j + 1))) (by omega) hd'
    exact ⟨ds, hs, fun post hp => br_f h ⟨hin, ws_i hj12, nm_r e (nm_r (nI_1 j) (sX post hp))⟩, fun post hp => br_f h ⟨hin, ws_i hj12, nm_r e (nm_r (nI_1 j) (sY post hp))⟩⟩
end
section
variable {vc dl ap : Nat} {db cp dr fr lt : Int32} {co ow le ba dt : Nat → Int32}
theorem ws_cls (hv : vc < 12) (hl : dl ≤ 12) (hd : ∀ q, q < dl → vp_in (dt q) 30) : ∀ (d j : Nat) (tx : Nat → Int32), j + d = dl → (∀ q, q < j → vp_in (tx (vc * 12 + q)) 30) → ∃ ts : Nat → Int32, (∀ q, q < vc * 12 → ts q = tx q) ∧ (∀ q, q < dl → vp_in (ts (vc * 12 + q)) 30) ∧ (∀ post : Int32 → SX → Prop, post (nI vc) (nI (vc + 1), nI dl, -1, nI ap, nI ap, co, ow, ts, upd le vc (nI dl), upd ba vc db, dt) → wX_close_28 post (nI vc) (nI vc) (nI dl) db cp (nI ap) (d + 1) (nI j) co ow tx le ba dt) ∧ (∀ (post : Int32 → SY → Prop) (ls bs : Nat → Int32), post (nI vc) (nI (vc + 1), nI ap, 0, fr, lt, nI dl, ls, bs, ts, co, ow, dt) → wY_close_49 post (nI vc) (nI ap) dr fr lt (nI dl) (d + 1) (nI j) ls bs tx co ow dt) := by
  have cv : (nI vc).toNatClampNeg = vc := ws_c hv
  intro d
  induction d with
  | zero =>
    intro j tx hj ht
    have h : nI dl ≤ nI j := nI_le (by omega) (by omega)
    have e1 : upd le (nI vc).toNatClampNeg (nI dl) = upd le vc (nI dl) := by rw [cv]
    have e2 : upd ba (nI vc).toNatClampNeg db = upd ba vc db := by rw [cv]
    refine ⟨tx, fun _ _ => rfl, fun q hq => ht q (by omega), ?_, ?_⟩
    · intro post hp
      exact br_t h ⟨ws_i hv, nm_r e1 ⟨ws_i hv, nm_r e2 (nm_r (nI_1 vc) hp)⟩⟩
    · intro post ls bs hp
      refine br_t h (nm_r (nI_1 vc) ?_)
      rw [nI_pred]
      exact hp
  | succ d ih =>
    intro j tx hj ht
    have hj12 : j < 12 := by omega
    have h : ¬ nI dl ≤ nI j := nI_ge (by omega) (by omega)
    have eX : upd tx (nI vc * 12 + nI j).toNatClampNeg (dt (nI j).toNatClampNeg) = upd tx (vc * 12 + j) (dt j) := by rw [ws_c hj12, ws_cX hv hj12]
    have eY : upd tx (12 * nI vc + nI j).toNatClampNeg (dt (nI j).toNatClampNeg) = upd tx (vc * 12 + j) (dt j) := by rw [ws_c hj12, ws_cY hv hj12]
    have ht' : ∀ q, q < j + 1 → vp_in (upd tx (vc * 12 + j) (dt j) (vc * 12 + q)) 30 := by
      intro q hq
      by_cases z : q = j
      · subst z; rw [pk_us]; exact hd q (by omega)
      · rw [pk_un (by omega)]; exact ht q (by omega)
    obtain ⟨ts, hk, hs, sX, sY⟩ := ih (j + 1) (upd tx (vc * 12 + j) (dt j)) (by omega) ht'
    refine ⟨ts, ?_, hs, fun post hp => br_f h ⟨ws_i hj12, ws_inX hv hj12, nm_r eX (nm_r (nI_1 j) (sX post hp))⟩, fun post ls bs hp => br_f h ⟨ws_i hj12, ws_inY hv hj12, nm_r eY (nm_r (nI_1 j) (sY post ls bs hp))⟩⟩
    intro q hq
    rw [hk q hq, pk_un (by omega)]
end
end
section
theorem i_vc_open {k : Nat} {u : SX} {v : SY} (I : i_Rel k u v) (hk : k + 4 ≤ 2048) (v1 : Int32) : wpX_open (fun r u' => wpY_open (fun r' v' => r' = r ∧ i_Rel (k + 4) u' v') v v1) u v1 := by
  have J : i_Rel (k + 4) u v := I
  obtain ⟨vc, dl, ap, db, cp, dr, fr, lt, co, ow, tx, le, ba, dt, rfl, rfl, I, D⟩ := I
  obtain ⟨⟨h1, hv, hd, ha⟩, H, B, _⟩ := I
  unfold wpX_open wpY_open wpX_throwDraftAway wpY_discard
  dsimp only
  rcases ws_ver hv v1 with ⟨w, hw, rfl⟩ | hb
  · have hw12 : w < 12 := by omega
    obtain ⟨l, hl, e, ht⟩ := H w hw
    have e' : le (nI w).toNatClampNeg = nI l := by rw [ws_c hw12]; exact e
    have key : ∀ c, c ≤ 30 → cp = nI c → ∃ ds : Nat → Int32, i_Rel (k + 4) (nI vc, nI l, nI w, cp, cp, co, ow, tx, le, ba, ds) (nI vc, nI c, 1, nI w, nI c, nI l, le, ba, tx, co, ow, ds) ∧ (∀ post : Int32 → SX → Prop, post (nI l) (nI vc, nI l, nI w, cp, cp, co, ow, tx, le, ba, ds) → wX_open_31 post (nI w) (nI vc) (nI l) (nI w) cp cp (l + 1) 0 co ow tx le ba dt) ∧ (∀ post : Int32 → SY → Prop, post (nI l) (nI vc, nI c, 1, nI w, nI c, nI l, le, ba, tx, co, ow, ds) → wY_open_45 post (nI w) (nI vc) (nI c) 1 (nI w) (nI c) (nI l) (l + 1) 0 le ba tx co ow dt) := by
      intro c hc ec
      subst ec
      obtain ⟨ds, hs, sX, sY⟩ := ws_op (vc := vc) (dl := l) (ap := c) (db := nI w) (cp := nI c) (dr := 1) (fr := nI w) (lt := nI c) (co := co) (ow := ow) (tx := tx) (le := le) (ba := ba) hw12 hl ht l 0 dt (by omega) (fun i hi => absurd hi (Nat.not_lt_zero i))
      exact ⟨ds, ⟨vc, l, c, nI w, nI c, 1, nI w, nI c, co, ow, tx, le, ba, ds, rfl, rfl, ⟨⟨h1, hv, hl, hc⟩, H, B, hs⟩, Or.inr ⟨rfl, w, c, hw, hc, rfl, rfl, rfl, rfl⟩⟩, sX, sY⟩
    refine ws_X1 hw hv (br_f ws_10 ⟨ws_i hw12, nm_r e' ?_⟩)
    rcases D with ⟨_, rfl, ec⟩ | ⟨rfl, b, c, _, hc, _, _, ec, rfl⟩
    · obtain ⟨ds, K, sX, sY⟩ := key ap ha ec
      exact ⟨l + 1, sX _ (ws_Y1 hw hv (br_f ws_10 (br_t rfl ⟨ws_i hw12, nm_r e' ⟨l + 1, sY _ ⟨rfl, K⟩⟩⟩)))⟩
    · obtain ⟨ds, K, sX, sY⟩ := key c hc ec
      exact ⟨l + 1, sX _ (ws_Y1 hw hv (br_f ws_10 (br_f ws_10 ⟨ws_i hw12, nm_r e' ⟨l + 1, sY _ ⟨rfl, K⟩⟩⟩)))⟩
  · exact ws_X0 hb (br_t rfl (ws_Y0 hb (br_t rfl ⟨rfl, J⟩)))
theorem i_vc_put {k : Nat} {u : SX} {v : SY} (I : i_Rel k u v) (hk : k + 4 ≤ 2048) (v1 : Int32) (v2 : Int32) : wpX_put (fun r u' => wpY_put (fun r' v' => r' = r ∧ i_Rel (k + 4) u' v') v v1 v2) u v1 v2 := by
  have J : i_Rel (k + 4) u v := I
  obtain ⟨vc, dl, ap, db, cp, dr, fr, lt, co, ow, tx, le, ba, dt, rfl, rfl, I, D⟩ := I
  obtain ⟨⟨h1, hv, hd, ha⟩, H, B, T⟩ := I
  unfold wpX_put wpY_put wpX_isDraftOpen
  dsimp only
  rcases D with ⟨rfl, rfl, rfl⟩ | ⟨rfl, b, c, hb, hc, rfl, rfl, rfl, rfl⟩
  · exact br_t rfl (br_t rfl (br_t rfl ⟨rfl, J⟩))
  · refine br_f (ws_ne (by omega)) (br_f ws_10 ?_)
    by_cases c0 : v2 < 0
    · exact br_t c0 (br_f ws_10 (br_t c0 ⟨rfl, J⟩))
    · by_cases c9 : 99 < v2
      · exact br_f c0 (br_t c9 (br_f ws_10 (br_f c0 (br_t c9 ⟨rfl, J⟩))))
      · by_cases i0 : v1 < 0
        · exact br_f c0 (br_f c9 (br_t i0 (br_f ws_10 (br_f c0 (br_f c9 (br_t i0 ⟨rfl, J⟩))))))
        · refine br_f c0 (br_f c9 (br_f i0 ?_))
          by_cases il : v1 ≤ nI dl
          · refine br_t il ?_
            by_cases l12 : (12 : Int32) ≤ nI dl
            · exact br_t l12 (br_f ws_10 (br_f c0 (br_f c9 (br_f i0 (br_t il (br_t l12 ⟨rfl, J⟩))))))
            · refine br_f l12 ?_
              by_cases a30 : nI ap < 30
              · obtain ⟨i, hi, rfl⟩ := nI_of i0
                have il' : i ≤ dl := (nI_leI hi (by omega)).mp il
                have l12' : dl < 12 := by
                  by_cases z : dl < 12
                  · exact z
                  · exact absurd (nI_le (a := 12) (b := dl) (by omega) (by omega)) l12
                have a30' : ap < 30 := (nI_ltI (a := ap) (b := 30) (by omega) (by omega)).mp a30
                obtain ⟨ds, hs, sX, sY⟩ := ws_put (vc := vc) (dl := dl) (ap := ap) (db := nI b) (cp := nI c) (dr := 1) (fr := nI b) (lt := nI c) (co := co) (ow := ow) (tx := tx) (le := le) (ba := ba) (i := i) (x := v2) l12' a30' (dl - i) dl dt (by omega) (by omega) (fun q hq hn => T q (by omega))
                exact br_t a30 ⟨dl - i + 1, sX _ (br_f ws_10 (br_f c0 (br_f c9 (br_f i0 (br_t il (br_f l12 (br_t a30 ⟨dl - i + 1, sY _ ⟨rfl, vc, dl + 1, ap + 1, nI b, nI c, 1, nI b, nI c, _, _, tx, le, ba, ds, rfl, rfl, ⟨⟨h1, hv, by omega, by omega⟩, H, B, hs⟩, Or.inr ⟨rfl, b, c, hb, hc, rfl, rfl, rfl, rfl⟩⟩⟩)))))))⟩
              · exact br_f a30 (br_f ws_10 (br_f c0 (br_f c9 (br_f i0 (br_t il (br_f l12 (br_f a30 ⟨rfl, J⟩)))))))
          · exact br_f il (br_f ws_10 (br_f c0 (br_f c9 (br_f i0 (br_f il ⟨rfl, J⟩)))))
theorem i_vc_cut {k : Nat} {u : SX} {v : SY} (I : i_Rel k u v) (hk : k + 4 ≤ 2048) (v1 : Int32) : wpX_cut (fun r u' => wpY_cut (fun r' v' => r' = r ∧ i_Rel (k + 4) u' v') v v1) u v1 := by
  have J : i_Rel (k + 4) u v := I
  obtain ⟨vc, dl, ap, db, cp, dr, fr, lt, co, ow, tx, le, ba, dt, rfl, rfl, I, D⟩ := I
  obtain ⟨⟨h1, hv, hd, ha⟩, H, B, T⟩ := I
  unfold wpX_cut wpY_cut wpX_isDraftOpen
  dsimp only
  rcases D with ⟨rfl, rfl, rfl⟩ | ⟨rfl, b, c, hb, hc, rfl, rfl, rfl, rfl⟩
  · exact br_t rfl (br_t rfl (br_t rfl ⟨rfl, J⟩))
  · refine br_f (ws_ne (by omega)) (br_f ws_10 ?_)
    by_cases i0 : v1 < 0
    · exact br_t i0 (br_f ws_10 (br_t i0 ⟨rfl, J⟩))
    · refine br_f i0 ?_
      by_cases il : v1 < nI dl
      · obtain ⟨i, hi, rfl⟩ := nI_of i0
        have il' : i < dl := (nI_ltI hi (by omega)).mp il
        obtain ⟨m, rfl⟩ : ∃ m, dl = m + 1 := ⟨dl - 1, by omega⟩
        have hi12 : i < 12 := by omega
        have ei : dt (nI i).toNatClampNeg = dt i := by rw [ws_c hi12]
        have hx : vp_in (dt i) 30 := T i il'
        have hx' : vp_in (dt (nI i).toNatClampNeg) 30 := by rw [ei]; exact hx
        have ec : co (dt (nI i).toNatClampNeg).toNatClampNeg = co (dt i).toNatClampNeg := by rw [ei]
        obtain ⟨ds, hs, sX, sY⟩ := ws_cut (vc := vc) (dl := m) (ap := ap) (db := nI b) (cp := nI c) (dr := 1) (fr := nI b) (lt := nI c) (co := co) (ow := ow) (tx := tx) (le := le) (ba := ba) (x := dt i) hx (by omega) (m - i) i dt (by omega) (fun q hq => T q hq)
        exact br_t il ⟨ws_i hi12, nm_r ei (nm_r (nI_pred m) ⟨m - i + 1, sX _ (br_f ws_10 (br_f i0 (br_t il ⟨ws_i hi12, hx', nm_r ec (nm_r (nI_pred m) ⟨m - i + 1, sY _ ⟨rfl, vc, m, ap, nI b, nI c, 1, nI b, nI c, co, ow, tx, le, ba, ds, rfl, rfl, ⟨⟨h1, hv, by omega, ha⟩, H, B, hs⟩, Or.inr ⟨rfl, b, c, hb, hc, rfl, rfl, rfl, rfl⟩⟩⟩)⟩)))⟩)⟩
      · exact br_f il (br_f ws_10 (br_f i0 (br_f il ⟨rfl, J⟩)))
theorem i_vc_close {k : Nat} {u : SX} {v : SY} (I : i_Rel k u v) (hk : k + 4 ≤ 2048) : wpX_close (fun r u' => wpY_close (fun r' v' => r' = r ∧ i_Rel (k + 4) u' v') v) u := by
  have J : i_Rel (k + 4) u v := I
  obtain ⟨vc, dl, ap, db, cp, dr, fr, lt, co, ow, tx, le, ba, dt, rfl, rfl, I, D⟩ := I
  obtain ⟨⟨h1, hv, hd, ha⟩, H, B, T⟩ := I
  unfold wpX_close wpY_close wpX_isDraftOpen
  dsimp only
  rcases D with ⟨rfl, rfl, rfl⟩ | ⟨rfl, b, c, hb, hc, rfl, rfl, rfl, rfl⟩
  · exact br_t rfl (br_t rfl (br_t rfl ⟨rfl, J⟩))
  · refine br_f (ws_ne (by omega)) (br_f ws_10 ?_)
    by_cases v12 : nI vc < 12
    · have v12' : vc < 12 := (nI_ltI (a := vc) (b := 12) (by omega) (by omega)).mp v12
      have e1 : upd le (nI vc).toNatClampNeg (nI dl) = upd le vc (nI dl) := by rw [ws_c v12']
      have e2 : upd ba (nI vc).toNatClampNeg (nI b) = upd ba vc (nI b) := by rw [ws_c v12']
      obtain ⟨ts, hk', hs, sX, sY⟩ := ws_cls (vc := vc) (dl := dl) (ap := ap) (db := nI b) (cp := nI c) (dr := 1) (fr := nI b) (lt := nI c) (co := co) (ow := ow) (le := le) (ba := ba) (dt := dt) v12' hd T dl 0 tx (by omega) (fun q hq => absurd hq (Nat.not_lt_zero q))
      have H' : ∀ w, w < vc + 1 → ∃ l, l ≤ 12 ∧ upd le vc (nI dl) w = nI l ∧ ∀ j, j < l → vp_in (ts (w * 12 + j)) 30 := by
        intro w hw
        by_cases z : w = vc
        · subst z
          exact ⟨dl, hd, pk_us, hs⟩
        · obtain ⟨l, hl, e, ht⟩ := H w (by omega)
          refine ⟨l, hl, by rw [pk_un z]; exact e, ?_⟩
          intro j hj
          rw [hk' _ (by omega)]
          exact ht j hj
      have B' : ∀ w, w < vc + 1 → upd ba vc (nI b) w = -1 ∨ ∃ b', b' < w ∧ upd ba vc (nI b) w = nI b' := by
        intro w hw
        by_cases z : w = vc
        · subst z
          exact Or.inr ⟨b, hb, pk_us⟩
        · rw [pk_un z]
          exact B w (by omega)
      exact br_t v12 ⟨dl + 1, sX _ (br_f ws_10 (br_t v12 ⟨ws_i v12', nm_r e1 ⟨ws_i v12', nm_r e2 ⟨dl + 1, sY _ _ _ ⟨rfl, vc + 1, dl, ap, -1, nI ap, 0, nI b, nI c, co, ow, ts, upd le vc (nI dl), upd ba vc (nI b), dt, rfl, rfl, ⟨⟨by omega, by omega, hd, ha⟩, H', B', T⟩, Or.inl ⟨rfl, rfl, rfl⟩⟩⟩⟩⟩))⟩
    · exact br_f v12 (br_f ws_10 (br_f v12 ⟨rfl, J⟩))
theorem i_vc_discard {k : Nat} {u : SX} {v : SY} (I : i_Rel k u v) (hk : k + 4 ≤ 2048) : wpX_discard (fun r u' => wpY_discard (fun r' v' => r' = r ∧ i_Rel (k + 4) u' v') v) u := by
  have J : i_Rel (k + 4) u v := I
  obtain ⟨vc, dl, ap, db, cp, dr, fr, lt, co, ow, tx, le, ba, dt, rfl, rfl, I, D⟩ := I
  obtain ⟨⟨h1, hv, hd, ha⟩, H, B, T⟩ := I
  unfold wpX_discard wpY_discard wpX_isDraftOpen wpX_throwDraftAway
  dsimp only
  rcases D with ⟨rfl, rfl, rfl⟩ | ⟨rfl, b, c, hb, hc, rfl, rfl, rfl, rfl⟩
  · exact br_t rfl ⟨rfl, br_t rfl ⟨rfl, J⟩⟩
  · exact br_f (ws_ne (by omega)) ⟨rfl, br_f ws_10 ⟨rfl, vc, dl, c, -1, nI c, 0, nI b, nI c, co, ow, tx, le, ba, dt, rfl, rfl, ⟨⟨h1, hv, hd, hc⟩, H, B, T⟩, Or.inl ⟨rfl, rfl, rfl⟩⟩⟩
end
