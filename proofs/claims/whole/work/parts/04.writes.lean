section
variable {vc dl ap : Nat} {db cp dr fr lt : Int32} {co ow tx le ba : Nat → Int32}
theorem ws_op {v : Nat} (hv : v < 12) (hl : dl ≤ 12) (ht : ∀ j, j < dl → vp_in (tx (v * 12 + j)) 30) : ∀ (d j : Nat) (dt : Nat → Int32), j + d = dl → (∀ i, i < j → vp_in (dt i) 30) → ∃ ds : Nat → Int32, (∀ i, i < dl → vp_in (ds i) 30) ∧ (∀ post : Int32 → SX → Prop, post (nI dl) (nI vc, nI dl, db, cp, nI ap, co, ow, tx, le, ba, ds) → wX_open_31 post (nI v) (nI vc) (nI dl) db cp (nI ap) (d + 1) (nI j) co ow tx le ba dt) ∧ (∀ post : Int32 → SY → Prop, post (nI dl) (nI vc, nI ap, dr, fr, lt, nI dl, le, ba, tx, co, ow, ds) → wY_open_45 post (nI v) (nI vc) (nI ap) dr fr lt (nI dl) (d + 1) (nI j) le ba tx co ow dt) := by
  intro d
  induction d with
  | zero =>
    intro j dt hj hd
    have h : nI dl ≤ nI j := nI_le (by omega) (by omega)
    exact ⟨dt, fun i hi => hd i (by omega), fun _ hp => br_t h hp, fun _ hp => br_t h hp⟩
  | succ d ih =>
    intro j dt hj hd
    have hj12 : j < 12 := by omega
    have h : ¬ nI dl ≤ nI j := nI_ge (by omega) (by omega)
    have eX : upd dt (nI j).toNatClampNeg (tx (nI v * 12 + nI j).toNatClampNeg) = upd dt j (tx (v * 12 + j)) := by rw [ws_c hj12, ws_cX hv hj12]
    have eY : upd dt (nI j).toNatClampNeg (tx (12 * nI v + nI j).toNatClampNeg) = upd dt j (tx (v * 12 + j)) := by rw [ws_c hj12, ws_cY hv hj12]
    have hd' : ∀ i, i < j + 1 → vp_in (upd dt j (tx (v * 12 + j)) i) 30 := by
      intro i hi
      by_cases z : i = j
      · subst z; rw [pk_us]; exact ht i (by omega)
      · rw [pk_un z]; exact hd i (by omega)
    obtain ⟨ds, hs, sX, sY⟩ := ih (j + 1) (upd dt j (tx (v * 12 + j))) (by omega) hd'
    exact ⟨ds, hs, fun post hp => br_f h ⟨ws_inX hv hj12, ws_i hj12, nm_r eX (nm_r (nI_1 j) (sX post hp))⟩, fun post hp => br_f h ⟨ws_inY hv hj12, ws_i hj12, nm_r eY (nm_r (nI_1 j) (sY post hp))⟩⟩
theorem ws_put {i : Nat} {x : Int32} (hl : dl < 12) (ha : ap < 30) : ∀ (d j : Nat) (dt : Nat → Int32), j = i + d → j ≤ dl → (∀ q, q ≤ dl → q ≠ j → vp_in (dt q) 30) → ∃ ds : Nat → Int32, (∀ q, q < dl + 1 → vp_in (ds q) 30) ∧ (∀ post : Int32 → SX → Prop, post (nI (dl + 1)) (nI vc, nI (dl + 1), db, cp, nI (ap + 1), upd co ap x, upd ow ap (nI vc), tx, le, ba, ds) → wX_put_57 post (nI i) x (nI vc) (nI dl) db cp (nI ap) (d + 1) (nI j) co ow tx le ba dt) ∧ (∀ post : Int32 → SY → Prop, post (nI (dl + 1)) (nI vc, nI (ap + 1), dr, fr, lt, nI (dl + 1), le, ba, tx, upd co ap x, upd ow ap (nI vc), ds) → wY_put_57 post (nI i) x (nI vc) (nI ap) dr fr lt (nI dl) (d + 1) (nI j) le ba tx co ow dt) := by
  intro d
  induction d with
  | zero =>
    intro j dt hj hjl hd
    have h : nI j ≤ nI i := nI_le (by omega) (by omega)
    have hi12 : i < 12 := by omega
    have ca : (nI ap).toNatClampNeg = ap := nI_clamp (by omega)
    have hai : vp_in (nI ap) 30 := vp_in_nI ha (by omega)
    have e1 : upd co (nI ap).toNatClampNeg x = upd co ap x := by rw [ca]
    have e2 : upd ow (nI ap).toNatClampNeg (nI vc) = upd ow ap (nI vc) := by rw [ca]
    have e3 : upd dt (nI i).toNatClampNeg (nI ap) = upd dt i (nI ap) := by rw [ws_c hi12]
    refine ⟨upd dt i (nI ap), ?_, ?_, ?_⟩
    · intro q hq
      by_cases z : q = i
      · subst z; rw [pk_us]; exact hai
      · rw [pk_un z]; exact hd q (by omega) (by omega)
    · intro post hp
      refine br_t h ?_
      unfold wpX_newLine
      dsimp only
      exact ⟨hai, nm_r e1 ⟨hai, nm_r e2 (nm_r (nI_1 ap) ⟨ws_i hi12, nm_r e3 (nm_r (nI_1 dl) hp)⟩)⟩⟩
    · intro post hp
      exact br_t h ⟨ws_i hi12, nm_r e3 ⟨hai, nm_r e1 ⟨hai, nm_r e2 (nm_r (nI_1 ap) (nm_r (nI_1 dl) hp))⟩⟩⟩
  | succ d ih =>
    intro j dt hj hjl hd
    obtain ⟨m, rfl⟩ : ∃ m, j = m + 1 := ⟨j - 1, by omega⟩
    have h : ¬ nI (m + 1) ≤ nI i := nI_ge (by omega) (by omega)
    have hm12 : m < 12 := by omega
    have hm12' : m + 1 < 12 := by omega
    have hin : vp_in (nI (m + 1) - 1) 12 := by rw [nI_pred]; exact ws_i hm12
    have e : upd dt (nI (m + 1)).toNatClampNeg (dt (nI (m + 1) - 1).toNatClampNeg) = upd dt (m + 1) (dt m) := by rw [nI_pred, ws_c hm12', ws_c hm12]
    have hd' : ∀ q, q ≤ dl → q ≠ m → vp_in (upd dt (m + 1) (dt m) q) 30 := by
      intro q hq hqm
      by_cases z : q = m + 1
      · subst z; rw [pk_us]; exact hd m (by omega) (by omega)
      · rw [pk_un z]; exact hd q hq z
    obtain ⟨ds, hs, sX, sY⟩ := ih m (upd dt (m + 1) (dt m)) (by omega) (by omega) hd'
    exact ⟨ds, hs, fun post hp => br_f h ⟨hin, ws_i hm12', nm_r e (nm_r (pk_m1 m) (sX post hp))⟩, fun post hp => br_f h ⟨hin, ws_i hm12', nm_r e (nm_r (pk_m1 m) (sY post hp))⟩⟩
theorem ws_cut {x : Int32} (hx : vp_in x 30) (hl : dl < 12) : ∀ (d j : Nat) (dt : Nat → Int32), j + d = dl → (∀ q, q < dl + 1 → vp_in (dt q) 30) → ∃ ds : Nat → Int32, (∀ q, q < dl → vp_in (ds q) 30) ∧ (∀ post : Int32 → SX → Prop, post (co x.toNatClampNeg) (nI vc, nI dl, db, cp, nI ap, co, ow, tx, le, ba, ds) → wX_cut_40 post x (nI vc) (nI dl) db cp (nI ap) (d + 1) (nI j) co ow tx le ba dt) ∧ (∀ post : Int32 → SY → Prop, post (co x.toNatClampNeg) (nI vc, nI ap, dr, fr, lt, nI dl, le, ba, tx, co, ow, ds) → wY_cut_45 post (co x.toNatClampNeg) (nI vc) (nI ap) dr fr lt (nI dl) (d + 1) (nI j) le ba tx co ow dt) := by
  intro d
  induction d with
  | zero =>
    intro j dt hj hd
    have h : nI dl ≤ nI j := nI_le (by omega) (by omega)
    exact ⟨dt, fun q hq => hd q (by omega), fun _ hp => br_t h ⟨hx, hp⟩, fun _ hp => br_t h hp⟩
  | succ d ih =>
    intro j dt hj hd
    have hj12 : j < 12 := by omega
    have hj12' : j + 1 < 12 := by omega
    have h : ¬ nI dl ≤ nI j := nI_ge (by omega) (by omega)
    have hin : vp_in (nI j + 1) 12 := by rw [nI_1]; exact ws_i hj12'
    have e : upd dt (nI j).toNatClampNeg (dt (nI j + 1).toNatClampNeg) = upd dt j (dt (j + 1)) := by rw [nI_1, ws_c hj12, ws_c hj12']
    have hd' : ∀ q, q < dl + 1 → vp_in (upd dt j (dt (j + 1)) q) 30 := by
      intro q hq
      by_cases z : q = j
      · subst z; rw [pk_us]; exact hd (q + 1) (by omega)
      · rw [pk_un z]; exact hd q hq
    obtain ⟨ds, hs, sX, sY⟩ := ih (j + 1) (upd dt j (dt (j + 1))) (by omega) hd'
    exact ⟨ds, hs, fun post hp => br_f h ⟨hin, ws_i hj12, nm_r e (nm_r (nI_1 j) (sX post hp))⟩, fun post hp => br_f h ⟨hin, ws_i hj12, nm_r e (nm_r (nI_1 j) (sY post hp))⟩⟩
end
section
variable {vc dl ap : Nat} {db cp dr fr lt : Int32} {co ow le ba dt : Nat → Int32}
theorem ws_cls (hv : vc < 12) (hl : dl ≤ 12) (hd : ∀ q, q < dl → vp_in (dt q) 30) : ∀ (d j : Nat) (tx : Nat → Int32), j + d = dl → (∀ q, q < j → vp_in (tx (vc * 12 + q)) 30) → ∃ ts : Nat → Int32, (∀ q, q < vc * 12 → ts q = tx q) ∧ (∀ q, q < dl → vp_in (ts (vc * 12 + q)) 30) ∧ (∀ post : Int32 → SX → Prop, post (nI vc) (nI (vc + 1), nI dl, -1, nI ap, nI ap, co, ow, ts, upd le vc (nI dl), upd ba vc db, dt) → wX_close_28 post (nI vc) (nI vc) (nI dl) db cp (nI ap) (d + 1) (nI j) co ow tx le ba dt) ∧ (∀ (post : Int32 → SY → Prop) (ls bs : Nat → Int32), post (nI vc) (nI (vc + 1), nI ap, 0, fr, lt, nI dl, ls, bs, ts, co, ow, dt) → wY_close_49 post (nI vc) (nI ap) dr fr lt (nI dl) (d + 1) (nI j) ls bs tx co ow dt) := by
  have cv : (nI vc).toNatClampNeg = vc := ws_c hv
  intro d
  induction d with
  | zero =>
    intro j tx hj ht
    have h : nI dl ≤ nI j := nI_le (by omega) (by omega)
    have e1 : upd le (nI vc).toNatClampNeg (nI dl) = upd le vc (nI dl) := by rw [cv]
    have e2 : upd ba (nI vc).toNatClampNeg db = upd ba vc db := by rw [cv]
    refine ⟨tx, fun _ _ => rfl, fun q hq => ht q (by omega), ?_, ?_⟩
    · intro post hp
      exact br_t h ⟨ws_i hv, nm_r e1 ⟨ws_i hv, nm_r e2 (nm_r (nI_1 vc) hp)⟩⟩
    · intro post ls bs hp
      refine br_t h (nm_r (nI_1 vc) ?_)
      rw [nI_pred]
      exact hp
  | succ d ih =>
    intro j tx hj ht
    have hj12 : j < 12 := by omega
    have h : ¬ nI dl ≤ nI j := nI_ge (by omega) (by omega)
    have eX : upd tx (nI vc * 12 + nI j).toNatClampNeg (dt (nI j).toNatClampNeg) = upd tx (vc * 12 + j) (dt j) := by rw [ws_c hj12, ws_cX hv hj12]
    have eY : upd tx (12 * nI vc + nI j).toNatClampNeg (dt (nI j).toNatClampNeg) = upd tx (vc * 12 + j) (dt j) := by rw [ws_c hj12, ws_cY hv hj12]
    have ht' : ∀ q, q < j + 1 → vp_in (upd tx (vc * 12 + j) (dt j) (vc * 12 + q)) 30 := by
      intro q hq
      by_cases z : q = j
      · subst z; rw [pk_us]; exact hd q (by omega)
      · rw [pk_un (by omega)]; exact ht q (by omega)
    obtain ⟨ts, hk, hs, sX, sY⟩ := ih (j + 1) (upd tx (vc * 12 + j) (dt j)) (by omega) ht'
    refine ⟨ts, ?_, hs, fun post hp => br_f h ⟨ws_i hj12, ws_inX hv hj12, nm_r eX (nm_r (nI_1 j) (sX post hp))⟩, fun post ls bs hp => br_f h ⟨ws_i hj12, ws_inY hv hj12, nm_r eY (nm_r (nI_1 j) (sY post ls bs hp))⟩⟩
    intro q hq
    rw [hk q hq, pk_un (by omega)]
end
