theorem pk_us {f : Nat → Int32} {k : Nat} {x : Int32} : upd f k x k = x := if_pos rfl
theorem pk_un {f : Nat → Int32} {k j : Nat} {x : Int32} (h : j ≠ k) : upd f k x j = f j := if_neg h
theorem pk_m1 (n : Nat) : nI (n + 1) + (-1) = nI n := by
  rw [← nI_1, Int32.add_assoc, show (1 : Int32) + (-1) = 0 from rfl, Int32.add_zero]
theorem pk_mul (a b : Nat) : nI a * nI b = nI (a * b) := (Int32.ofNat_mul a b).symm
theorem ws_12 : (12 : Int32) = nI 12 := rfl
theorem ws_ix (v j : Nat) : nI v * 12 + nI j = nI (v * 12 + j) := by rw [ws_12, pk_mul, nI_add]
theorem ws_iy (v j : Nat) : 12 * nI v + nI j = nI (v * 12 + j) := by rw [Int32.mul_comm, ws_ix]
theorem ws_inX {v j : Nat} (hv : v < 12) (hj : j < 12) : vp_in (nI v * 12 + nI j) 144 := by
  rw [ws_ix]; exact vp_in_nI (by omega) (by omega)
theorem ws_inY {v j : Nat} (hv : v < 12) (hj : j < 12) : vp_in (12 * nI v + nI j) 144 := by
  rw [ws_iy]; exact vp_in_nI (by omega) (by omega)
theorem ws_cX {v j : Nat} (hv : v < 12) (hj : j < 12) : (nI v * 12 + nI j).toNatClampNeg = v * 12 + j := by
  rw [ws_ix]; exact nI_clamp (by omega)
theorem ws_cY {v j : Nat} (hv : v < 12) (hj : j < 12) : (12 * nI v + nI j).toNatClampNeg = v * 12 + j := by
  rw [ws_iy]; exact nI_clamp (by omega)
theorem ws_c {v : Nat} (hv : v < 12) : (nI v).toNatClampNeg = v := nI_clamp (by omega)
theorem ws_i {v : Nat} (hv : v < 12) : vp_in (nI v) 12 := vp_in_nI hv (by omega)
theorem ws_10 : ¬ (1 : Int32) = 0 := by decide
theorem ws_m1 : (-1 : Int32) < 0 := by decide
theorem ws_m1' : ¬ (0 : Int32) ≤ -1 := by decide
theorem ws_ne {b : Nat} (h : b < 100) : ¬ nI b = -1 := by
  intro e
  have p : ¬ nI b < 0 := nI_pos (by omega)
  rw [e] at p
  exact p ws_m1
theorem ws_lne {x : Int32} (h : vp_in x 30) : ¬ x = -1 := by
  obtain ⟨j, hj, rfl⟩ := vp_in_of h (by omega)
  exact ws_ne (by omega)
theorem ws_lnn {x : Int32} (h : vp_in x 30) : ¬ x < 0 := by
  obtain ⟨j, hj, rfl⟩ := vp_in_of h (by omega)
  exact nI_pos (by omega)
theorem ws_l0 {x : Int32} (h : vp_in x 30) : 0 ≤ x := by
  obtain ⟨j, hj, rfl⟩ := vp_in_of h (by omega)
  exact nI_pos' (by omega)
/-- what holds of the parts that both sides keep alike -/
def ws_Inv (vc dl ap : Nat) (tx le ba dt : Nat → Int32) : Prop :=
  (1 ≤ vc ∧ vc ≤ 12 ∧ dl ≤ 12 ∧ ap ≤ 30) ∧
  (∀ w, w < vc → ∃ l, l ≤ 12 ∧ le w = nI l ∧ ∀ j, j < l → vp_in (tx (w * 12 + j)) 30) ∧
  (∀ w, w < vc → ba w = -1 ∨ ∃ b, b < w ∧ ba w = nI b) ∧
  (∀ j, j < dl → vp_in (dt j) 30)
/-- the draft's marks: none, or one from version b with c lines before it -/
def ws_Dr (vc ap : Nat) (db cp dr fr lt : Int32) : Prop :=
  (db = -1 ∧ dr = 0 ∧ cp = nI ap) ∨
  (dr = 1 ∧ ∃ b c, b < vc ∧ c ≤ 30 ∧ db = nI b ∧ fr = nI b ∧ cp = nI c ∧ lt = nI c)
def i_Rel (_ : Nat) (u : SX) (v : SY) : Prop :=
  ∃ (vc dl ap : Nat) (db cp dr fr lt : Int32) (co ow tx le ba dt : Nat → Int32),
    u = (nI vc, nI dl, db, cp, nI ap, co, ow, tx, le, ba, dt) ∧
    v = (nI vc, nI ap, dr, fr, lt, nI dl, le, ba, tx, co, ow, dt) ∧
    ws_Inv vc dl ap tx le ba dt ∧ ws_Dr vc ap db cp dr fr lt
theorem i_up {k : Nat} {u : SX} {v : SY} (h : i_Rel k u v) : i_Rel (k + 4) u v := h
theorem i_vc0 : wpX_init (fun u => wpY_init (fun v => i_Rel 0 u v)) := by
  intro a ea b eb
  subst ea eb
  refine ⟨1, 0, 0, -1, 0, 0, 0, 0, _, _, _, _, _, _, rfl, rfl, ⟨⟨by omega, by omega, by omega, by omega⟩, ?_, ?_, ?_⟩, Or.inl ⟨rfl, rfl, rfl⟩⟩
  · intro w _
    exact ⟨0, by omega, rfl, fun j hj => absurd hj (Nat.not_lt_zero j)⟩
  · intro w hw
    have e : w = 0 := by omega
    subst e
    exact Or.inl rfl
  · exact fun j hj => absurd hj (Nat.not_lt_zero j)
section
variable {vc dl ap : Nat} {db cp dr fr lt : Int32} {co ow tx le ba dt : Nat → Int32}
theorem ws_ver (hv : vc ≤ 12) (x : Int32) : (∃ w, w < vc ∧ x = nI w) ∨ (x < 0 ∨ nI vc ≤ x) := by
  by_cases h0 : x < 0
  · exact Or.inr (Or.inl h0)
  · obtain ⟨w, hw, rfl⟩ := nI_of h0
    by_cases h : w < vc
    · exact Or.inl ⟨w, h, rfl⟩
    · exact Or.inr (Or.inr (nI_le (by omega) hw))
theorem ws_X1 {w : Nat} (h : w < vc) (hv : vc ≤ 12) {post : Int32 → Prop} (hp : post 1) : wpX_isVersion post (nI vc, nI dl, db, cp, nI ap, co, ow, tx, le, ba, dt) (nI w) :=
  br_f (nI_pos (by omega)) (br_f (nI_ge h (by omega)) hp)
theorem ws_Y1 {w : Nat} (h : w < vc) (hv : vc ≤ 12) {post : Int32 → Prop} (hp : post 1) : wpY_version post (nI vc, nI ap, dr, fr, lt, nI dl, le, ba, tx, co, ow, dt) (nI w) :=
  br_f (nI_pos (by omega)) (br_f (nI_ge h (by omega)) hp)
theorem ws_X0 {x : Int32} (h : x < 0 ∨ nI vc ≤ x) {post : Int32 → Prop} (hp : post 0) : wpX_isVersion post (nI vc, nI dl, db, cp, nI ap, co, ow, tx, le, ba, dt) x :=
  br_c (fun _ => hp) (fun h0 => br_t (h.resolve_left h0) hp)
theorem ws_Y0 {x : Int32} (h : x < 0 ∨ nI vc ≤ x) {post : Int32 → Prop} (hp : post 0) : wpY_version post (nI vc, nI ap, dr, fr, lt, nI dl, le, ba, tx, co, ow, dt) x :=
  br_c (fun _ => hp) (fun h0 => br_t (h.resolve_left h0) hp)
end
