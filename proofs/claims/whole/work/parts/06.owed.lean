/-! the owed statements -/
theorem lz_34 (x : Int32) : 3 < x ↔ 4 ≤ x := by
  have h3 : (3 : Int32).toInt = 3 := by decide
  have h4 : (4 : Int32).toInt = 4 := by decide
  rw [Int32.lt_iff_toInt_lt, Int32.le_iff_toInt_le, h3, h4]
  omega
def lz_Ok (x : Int32) : Prop := ¬ x < 0 ∧ ¬ 3 < x
theorem lz_okN {x : Int32} (h : lz_Ok x) : ∃ j : Nat, j < 4 ∧ x = nI j := by
  rcases pk_ix x (n := 4) (by omega) with z | z | z
  · exact absurd z h.1
  · exact absurd ((lz_34 x).mpr z) h.2
  · exact z
theorem lz_isF {post : Int32 → Prop} {x : Int32} (h : ¬ lz_Ok x) (H : post 0) : wpX_isVariable post x := by
  by_cases z : x < 0
  · exact br_t z H
  · by_cases y : 3 < x
    · exact br_f z (br_t ((lz_34 x).mp y) H)
    · exact absurd ⟨z, y⟩ h
theorem lz_isT {post : Int32 → Prop} {x : Int32} (h : lz_Ok x) (H : post 1) : wpX_isVariable post x := br_f h.1 (br_f (fun z => h.2 ((lz_34 x).mpr z)) H)
theorem lz_ivF {post : Int32 → Prop} {x : Int32} (h : ¬ lz_Ok x) (H : post 0) : wpX_isValue post x := by
  by_cases z : x < 0
  · exact br_t z H
  · by_cases y : 3 < x
    · exact br_f z (br_t ((lz_34 x).mp y) H)
    · exact absurd ⟨z, y⟩ h
theorem lz_ivT {post : Int32 → Prop} {x : Int32} (h : lz_Ok x) (H : post 1) : wpX_isValue post x := br_f h.1 (br_f (fun z => h.2 ((lz_34 x).mpr z)) H)
theorem lz_yb {x : Int32} {A B : Prop} (h : ¬ lz_Ok x) (a : A) : (x < 0 → A) ∧ (¬ x < 0 → ((3 < x → A) ∧ (¬ 3 < x → B))) := ⟨fun _ => a, fun z => ⟨fun _ => a, fun y => absurd ⟨z, y⟩ h⟩⟩
theorem lz_yg {x : Int32} {A B : Prop} (h : lz_Ok x) (b : B) : (x < 0 → A) ∧ (¬ x < 0 → ((3 < x → A) ∧ (¬ 3 < x → B))) := br_f h.1 (br_f h.2 b)
theorem lz_zb {x : Int32} {A B : Prop} (h : ¬ lz_Ok x) (a : A) : (x < 0 → A) ∧ (¬ x < 0 → ((x ≤ 3 → B) ∧ (¬ x ≤ 3 → A))) := ⟨fun _ => a, fun z => ⟨fun y => absurd ⟨z, Int32.not_lt.mpr y⟩ h, fun _ => a⟩⟩
theorem lz_zg {x : Int32} {A B : Prop} (h : lz_Ok x) (b : B) : (x < 0 → A) ∧ (¬ x < 0 → ((x ≤ 3 → B) ∧ (¬ x ≤ 3 → A))) := br_f h.1 (br_t (Int32.not_lt.mp h.2) b)
theorem i_up {k : Nat} {u : SX} {v : SY} (h : i_Rel k u v) : i_Rel (k + 5) u v := h
theorem i_vc0 : wpX_init (fun u => wpY_init (fun v => i_Rel 0 u v)) := ⟨0, 0, fun _ => 0, fun _ => 0, fun _ => 0, fun _ => 0, rfl, rfl, fun i _ => b_0 i, by omega, fun q hq => absurd hq (by omega)⟩
theorem i_vc_factor {k : Nat} {u : SX} {v : SY} (I : i_Rel k u v) (hk : k + 5 ≤ 2560) (v1 : Int32) (v2 : Int32) : wpX_factor (fun r u' => wpY_factor (fun r' v' => r' = r ∧ i_Rel (k + 5) u' v') v v1 v2) u v1 v2 := by
  have J : i_Rel (k + 5) u v := I
  obtain ⟨c, f, h, b, kd, dt, rfl, rfl, B, R⟩ := I
  unfold wpX_factor wpY_factor
  dsimp only
  by_cases h1 : lz_Ok v1
  · have hi : vp_in v1 4 := by
      obtain ⟨j, hj, rfl⟩ := lz_okN h1
      exact vp_in_nI hj (by decide)
    refine lz_isT h1 (br_f (by decide) ?_)
    by_cases h2 : v2 < -5
    · exact br_t h2 (lz_yg h1 (br_t h2 ⟨rfl, J⟩))
    · by_cases h3 : v2 ≤ 5
      · exact br_f h2 (br_t h3 ⟨hi, nm_e ⟨hi, nm_e (lz_yg h1 (br_f h2 (br_t h3 ⟨hi, nm_e ⟨hi, nm_e ⟨rfl, c, f, upd h v1.toNatClampNeg v2, b, kd, dt, rfl, rfl, B, R⟩⟩⟩)))⟩⟩)
      · exact br_f h2 (br_f h3 (lz_yg h1 (br_f h2 (br_f h3 ⟨rfl, J⟩))))
  · exact lz_isF h1 (br_t rfl (lz_yb h1 ⟨rfl, J⟩))
theorem lz_c10 {c : Nat} (h : c < 10) : nI c < 10 ∧ ¬ nI c = 10 := ⟨nI_lt (b := 10) h (by decide), fun z => absurd ((nI_eq (a := c) (b := 10) (by omega) (by omega)).mp z) (by omega)⟩
theorem lz_c10' {c : Nat} (h : ¬ c < 10) (h' : c ≤ 10) : ¬ nI c < 10 ∧ nI c = 10 := by
  have e : c = 10 := by omega
  subst e
  exact ⟨nI_nlt (a := 10) (b := 10) (by omega) (by decide), rfl⟩
theorem i_vc_linear {k : Nat} {u : SX} {v : SY} (I : i_Rel k u v) (hk : k + 5 ≤ 2560) (v1 : Int32) : wpX_linear (fun r u' => wpY_linear (fun r' v' => r' = r ∧ i_Rel (k + 5) u' v') v v1) u v1 := by
  have J : i_Rel (k + 5) u v := I
  obtain ⟨c, f, h, b, kd, dt, rfl, rfl, B, R⟩ := I
  unfold wpX_linear wpY_linear
  dsimp only
  by_cases h1 : v1 < -60
  · exact br_t h1 (br_t h1 ⟨rfl, J⟩)
  refine br_f h1 ?_
  by_cases h2 : v1 ≤ 60
  · refine br_t h2 ?_
    by_cases hc : c < 10
    · refine br_t (lz_c10 hc).1 ⟨256 + 1, lz_linX hc (fun b' I' => ?_) 256 0 b rfl lz_Inv0⟩
      refine br_f h1 (br_t h2 (br_f (lz_c10 hc).2 ⟨4 + 1, lz_linY hc (fun dt' g1 g2 g3 => ⟨rfl, c + 1, _, h, b', upd kd c 0, dt', rfl, rfl, lz_Bg hc B, lz_grow R hc I' g1 (fun j hj => ?_)⟩) 4 0 dt rfl (fun _ _ => rfl) (fun t ht => absurd ht (by omega))⟩))
      rw [lz_Sat0 (by rw [pk_us]; decide) (by rw [pk_us]; decide), g3, lz_sc (h := h) 4 g2]
    · exact br_f (lz_c10' hc R.1).1 (br_f h1 (br_t h2 (br_t (lz_c10' hc R.1).2 ⟨rfl, J⟩)))
  · exact br_f h2 (br_f h1 (br_f h2 ⟨rfl, J⟩))
theorem lz_16 (x : Int32) : x < 16 ↔ x ≤ 15 := by
  have h3 : (16 : Int32).toInt = 16 := by decide
  have h4 : (15 : Int32).toInt = 15 := by decide
  rw [Int32.lt_iff_toInt_lt, Int32.le_iff_toInt_le, h3, h4]
  omega
theorem i_vc_differ {k : Nat} {u : SX} {v : SY} (I : i_Rel k u v) (hk : k + 5 ≤ 2560) (v1 : Int32) : wpX_differ (fun r u' => wpY_differ (fun r' v' => r' = r ∧ i_Rel (k + 5) u' v') v v1) u v1 := by
  have J : i_Rel (k + 5) u v := I
  obtain ⟨c, f, h, b, kd, dt, rfl, rfl, B, R⟩ := I
  unfold wpX_differ wpY_differ
  dsimp only
  by_cases h1 : v1 < 0
  · exact br_t h1 (br_t h1 ⟨rfl, J⟩)
  refine br_f h1 ?_
  by_cases h2 : v1 < 16
  · have h3 := (lz_16 v1).mp h2
    refine br_t h2 ?_
    by_cases hc : c < 10
    · refine br_t (lz_c10 hc).1 ⟨256 + 1, lz_difX hc (fun b' I' => ?_) 256 0 b rfl lz_Inv0⟩
      refine br_f h1 (br_t h3 (br_f (lz_c10 hc).2 ?_))
      rw [lz_5a, lz_cl (show c * 5 < 1000 by omega)]
      refine ⟨vp_in_nI (by omega) (by decide), nm_e (lz_makeY hc ⟨rfl, c + 1, _, h, b', upd kd c 1, upd dt (c * 5) v1, rfl, rfl, lz_Bg hc B, lz_grow R hc I' (fun t ht => pk_un (by omega)) (fun j hj => ?_)⟩)⟩
      rw [lz_Sat1 pk_us, pk_us]
    · exact br_f (lz_c10' hc R.1).1 (br_f h1 (br_t h3 (br_t (lz_c10' hc R.1).2 ⟨rfl, J⟩)))
  · exact br_f h2 (br_f h1 (br_f (fun z => h2 ((lz_16 v1).mpr z)) ⟨rfl, J⟩))
theorem i_vc_either {k : Nat} {u : SX} {v : SY} (I : i_Rel k u v) (hk : k + 5 ≤ 2560) (v1 : Int32) (v2 : Int32) (v3 : Int32) (v4 : Int32) : wpX_either (fun r u' => wpY_either (fun r' v' => r' = r ∧ i_Rel (k + 5) u' v') v v1 v2 v3 v4) u v1 v2 v3 v4 := by
  have J : i_Rel (k + 5) u v := I
  obtain ⟨c, f, h, b, kd, dt, rfl, rfl, B, R⟩ := I
  unfold wpX_either wpY_either
  dsimp only
  by_cases h1 : lz_Ok v1
  · refine lz_isT h1 (br_f (by decide) ?_)
    by_cases h3 : lz_Ok v3
    · refine lz_isT h3 (br_f (by decide) ?_)
      by_cases h2 : lz_Ok v2
      · refine lz_ivT h2 (br_f (by decide) ?_)
        by_cases h4 : lz_Ok v4
        · refine lz_ivT h4 (br_f (by decide) ?_)
          by_cases hc : c < 10
          · refine br_t (lz_c10 hc).1 ⟨256 + 1, lz_eitX hc (fun b' I' => ?_) 256 0 b rfl lz_Inv0⟩
            refine lz_yg h1 (lz_yg h3 (lz_yg h2 (lz_zg h4 (br_f (lz_c10 hc).2 ?_))))
            rw [lz_5a, show nI (c * 5) + 1 = nI (c * 5 + 1) from nI_add _ 1, show nI (c * 5) + 2 = nI (c * 5 + 2) from nI_add _ 2, show nI (c * 5) + 3 = nI (c * 5 + 3) from nI_add _ 3, lz_cl (show c * 5 < 1000 by omega), lz_cl (show c * 5 + 1 < 1000 by omega), lz_cl (show c * 5 + 2 < 1000 by omega), lz_cl (show c * 5 + 3 < 1000 by omega)]
            refine ⟨vp_in_nI (by omega) (by decide), nm_e ⟨vp_in_nI (by omega) (by decide), nm_e ⟨vp_in_nI (by omega) (by decide), nm_e ⟨vp_in_nI (by omega) (by decide), nm_e (lz_makeY hc ⟨rfl, c + 1, _, h, b', upd kd c 2, upd (upd (upd (upd dt (c * 5) v1) (c * 5 + 1) v2) (c * 5 + 2) v3) (c * 5 + 3) v4, rfl, rfl, lz_Bg hc B, lz_grow R hc I' (fun t ht => ?_) (fun j hj => ?_)⟩)⟩⟩⟩⟩
            · rw [pk_un (by omega), pk_un (by omega), pk_un (by omega), pk_un (by omega)]
            · rw [lz_Sat2 pk_us, pk_us, pk_un (show c * 5 + 2 ≠ c * 5 + 3 by omega), pk_us, pk_un (show c * 5 + 1 ≠ c * 5 + 3 by omega), pk_un (show c * 5 + 1 ≠ c * 5 + 2 by omega), pk_us, pk_un (show c * 5 ≠ c * 5 + 3 by omega), pk_un (show c * 5 ≠ c * 5 + 2 by omega), pk_un (show c * 5 ≠ c * 5 + 1 by omega), pk_us]
          · exact br_f (lz_c10' hc R.1).1 (lz_yg h1 (lz_yg h3 (lz_yg h2 (lz_zg h4 (br_t (lz_c10' hc R.1).2 ⟨rfl, J⟩)))))
        · exact lz_ivF h4 (br_t rfl (lz_yg h1 (lz_yg h3 (lz_yg h2 (lz_zb h4 ⟨rfl, J⟩)))))
      · exact lz_ivF h2 (br_t rfl (lz_yg h1 (lz_yg h3 (lz_yb h2 ⟨rfl, J⟩))))
    · exact lz_isF h3 (br_t rfl (lz_yg h1 (lz_yb h3 ⟨rfl, J⟩)))
  · exact lz_isF h1 (br_t rfl (lz_yb h1 ⟨rfl, J⟩))
theorem i_vc_constraints {k : Nat} {u : SX} {v : SY} (I : i_Rel k u v) (hk : k + 5 ≤ 2560) : wpX_constraints (fun r => wpY_constraints (fun r' => r' = r ∧ i_Rel (k + 5) u v) v) u := by
  have J : i_Rel (k + 5) u v := I
  obtain ⟨c, f, h, b, kd, dt, rfl, rfl, B, R⟩ := I
  exact ⟨rfl, J⟩
theorem lz_icT {post : Int32 → Prop} {c q : Nat} (hc : c ≤ 10) (hq : q < c) {f : Int32} {h b : Nat → Int32} (H : post 1) : wpX_isConstraint post (nI c, f, h, b) (nI q) := br_f (nI_pos (by omega)) (br_f (nI_ge hq (by omega)) H)
theorem i_vc_force {k : Nat} {u : SX} {v : SY} (I : i_Rel k u v) (hk : k + 5 ≤ 2560) (v1 : Int32) (v2 : Int32) : wpX_force (fun r u' => wpY_force (fun r' v' => r' = r ∧ i_Rel (k + 5) u' v') v v1 v2) u v1 v2 := by
  have J : i_Rel (k + 5) u v := I
  obtain ⟨c, f, h, b, kd, dt, rfl, rfl, B, R⟩ := I
  have hc := R.1
  unfold wpX_force wpY_force
  dsimp only
  rcases pk_ix v1 (n := c) (by omega) with z | z | ⟨q, hq, rfl⟩
  · exact br_t z (br_t rfl (br_t z ⟨rfl, J⟩))
  · by_cases y : v1 < 0
    · exact br_t y (br_t rfl (br_t y ⟨rfl, J⟩))
    · exact br_f y (br_t z (br_t rfl (br_f y (br_f (Int32.not_lt.mpr z) ⟨rfl, J⟩))))
  · refine lz_icT hc hq (br_f (by decide) (nm_e ?_))
    have hB : lz_B c (f ||| ((1 : Int32) <<< (nI q &&& 31))) := fun i hi => by rw [lz_on (by omega), B i hi, decide_eq_false (by omega), Bool.or_false]
    have hO : lz_B c (f &&& (((1 : Int32) <<< (nI q &&& 31)) ^^^ (-1))) := lz_Bo (by omega) B
    rw [lz_shr (show q < 32 by omega) f]
    have y0 := nI_pos (n := q) (by omega)
    have y1 : nI q < nI c := nI_lt hq (by omega)
    cases w : bt f q
    · refine br_t ((lz_and0 (by omega) f).mpr w) ?_
      by_cases o : v2 = 0
      · exact br_t o (nm_e (br_f y0 (br_t y1 (nm_e (br_t o (nm_e ⟨rfl, c, _, h, b, kd, dt, rfl, rfl, hO, R⟩))))))
      · exact br_f o (nm_e (br_f y0 (br_t y1 (nm_e (br_f o (nm_e ⟨rfl, c, _, h, b, kd, dt, rfl, rfl, hB, R⟩))))))
    · refine br_f (lz_andn (by omega) f w) ?_
      by_cases o : v2 = 0
      · exact br_t o (nm_e (br_f y0 (br_t y1 (nm_e (br_t o (nm_e ⟨rfl, c, _, h, b, kd, dt, rfl, rfl, hO, R⟩))))))
      · exact br_f o (nm_e (br_f y0 (br_t y1 (nm_e (br_f o (nm_e ⟨rfl, c, _, h, b, kd, dt, rfl, rfl, hB, R⟩))))))
theorem i_vc_clear {k : Nat} {u : SX} {v : SY} (I : i_Rel k u v) (hk : k + 5 ≤ 2560) : wpX_clear (fun u' => wpY_clear (fun v' => i_Rel (k + 5) u' v') v) u := by
  obtain ⟨c, f, h, b, kd, dt, rfl, rfl, B, R⟩ := I
  exact ⟨0, 0, h, b, kd, dt, rfl, rfl, fun i _ => b_0 i, by omega, fun q hq => absurd hq (by omega)⟩
theorem i_vc_solvable {k : Nat} {u : SX} {v : SY} (I : i_Rel k u v) (hk : k + 5 ≤ 2560) : wpX_solvable (fun r => wpY_solvable (fun r' => r' = r ∧ i_Rel (k + 5) u v) v) u := by
  have J : i_Rel (k + 5) u v := I
  obtain ⟨c, f, h, b, kd, dt, rfl, rfl, B, R⟩ := I
  unfold wpX_solvable wpY_solvable
  dsimp only
  rcases lz_can f h R B with ⟨cX, cY⟩ | ⟨cX, t, ht, cY⟩
  · exact cX _ ⟨rfl, cY _ (br_t rfl ⟨rfl, J⟩)⟩
  · exact cX _ ⟨rfl, cY _ (br_f ht ⟨rfl, J⟩)⟩
theorem i_vc_value {k : Nat} {u : SX} {v : SY} (I : i_Rel k u v) (hk : k + 5 ≤ 2560) (v1 : Int32) : wpX_value (fun r => wpY_value (fun r' => r' = r ∧ i_Rel (k + 5) u v) v v1) u v1 := by
  have J : i_Rel (k + 5) u v := I
  obtain ⟨c, f, h, b, kd, dt, rfl, rfl, B, R⟩ := I
  unfold wpX_value wpY_value
  dsimp only
  by_cases h1 : lz_Ok v1
  · obtain ⟨r, hX, hY⟩ := lz_first0 f h R B
    refine lz_isT h1 (br_f (by decide) (hX _ ?_))
    by_cases z : r = -4
    · exact br_t z (lz_zg h1 (hY _ (br_t z ⟨rfl, J⟩)))
    · exact br_f z (lz_vX (lz_zg h1 (hY _ (br_f z (lz_vY ⟨rfl, J⟩)))))
  · exact lz_isF h1 (br_t rfl (lz_zb h1 ⟨rfl, J⟩))
theorem i_vc_firstWith {k : Nat} {u : SX} {v : SY} (I : i_Rel k u v) (hk : k + 5 ≤ 2560) (v1 : Int32) (v2 : Int32) : wpX_firstWith (fun r => wpY_firstWith (fun r' => r' = r ∧ i_Rel (k + 5) u v) v v1 v2) u v1 v2 := by
  have J : i_Rel (k + 5) u v := I
  obtain ⟨c, f, h, b, kd, dt, rfl, rfl, B, R⟩ := I
  unfold wpX_firstWith wpY_firstWith
  dsimp only
  by_cases h1 : lz_Ok v1
  · refine lz_isT h1 (br_f (by decide) ?_)
    by_cases h2 : lz_Ok v2
    · obtain ⟨r, hX, hY⟩ := lz_with (h := h) R B (i := v1) (x := v2) 256 0 rfl
      exact lz_ivT h2 (br_f (by decide) ⟨256 + 1, hX _ (lz_yg h1 (lz_zg h2 ⟨256 + 1, hY _ ⟨rfl, J⟩⟩))⟩)
    · exact lz_ivF h2 (br_t rfl (lz_yg h1 (lz_zb h2 ⟨rfl, J⟩)))
  · exact lz_isF h1 (br_t rfl (lz_yb h1 ⟨rfl, J⟩))
theorem i_vc_values {k : Nat} {u : SX} {v : SY} (I : i_Rel k u v) (hk : k + 5 ≤ 2560) (v1 : Int32) : wpX_values (fun r => wpY_values (fun r' => r' = r ∧ i_Rel (k + 5) u v) v v1) u v1 := by
  have J : i_Rel (k + 5) u v := I
  obtain ⟨c, f, h, b, kd, dt, rfl, rfl, B, R⟩ := I
  unfold wpX_values wpY_values
  dsimp only
  by_cases h1 : lz_Ok v1
  · obtain ⟨r, hX, hY⟩ := lz_vals (h := h) R B (i := v1) 256 0 0 rfl
    exact lz_isT h1 (br_f (by decide) ⟨256 + 1, hX _ (lz_zg h1 ⟨256 + 1, hY _ ⟨rfl, J⟩⟩)⟩)
  · exact lz_isF h1 (br_t rfl (lz_zb h1 ⟨rfl, J⟩))
theorem lz_from (x : Int32) (h : ¬ x < -1) (h' : x < 256) : x ≤ 255 ∧ ∃ j : Nat, j ≤ 256 ∧ x + 1 = nI j := by
  have e1 : (-1 : Int32).toInt = -1 := by decide
  have e5 : (255 : Int32).toInt = 255 := by decide
  have e6 : (256 : Int32).toInt = 256 := by decide
  have e0 : (0 : Int32).toInt = 0 := by decide
  refine ⟨?_, ?_⟩
  · rw [Int32.lt_iff_toInt_lt, e6] at h'
    rw [Int32.le_iff_toInt_le, e5]
    omega
  · by_cases z : x < 0
    · refine ⟨0, by omega, ?_⟩
      have e : x = -1 := by
        apply Int32.toInt_inj.mp
        rw [Int32.lt_iff_toInt_lt, e0] at z
        rw [Int32.lt_iff_toInt_lt, e1] at h
        rw [e1]
        omega
      rw [e]
      decide
    · obtain ⟨j, hj, rfl⟩ := nI_of z
      have hl := (nI_ltI (b := 256) hj (by decide)).mp h'
      exact ⟨j + 1, by omega, nI_1 j⟩
theorem i_vc_after {k : Nat} {u : SX} {v : SY} (I : i_Rel k u v) (hk : k + 5 ≤ 2560) (v1 : Int32) : wpX_after (fun r => wpY_after (fun r' => r' = r ∧ i_Rel (k + 5) u v) v v1) u v1 := by
  have J : i_Rel (k + 5) u v := I
  obtain ⟨c, f, h, b, kd, dt, rfl, rfl, B, R⟩ := I
  unfold wpX_after wpY_after
  dsimp only
  by_cases h1 : v1 < -1
  · exact br_t h1 (br_t h1 ⟨rfl, J⟩)
  · by_cases h2 : v1 < 256
    · obtain ⟨h3, j, hj, ej⟩ := lz_from v1 h1 h2
      rw [ej]
      obtain ⟨r, hX, hY⟩ := lz_firstW f h R B hj
      exact br_f h1 (br_t h2 (hX _ (br_f h1 (br_t h3 (hY _ ⟨rfl, J⟩)))))
    · have h3 : ¬ v1 ≤ 255 := by
        have e5 : (255 : Int32).toInt = 255 := by decide
        have e6 : (256 : Int32).toInt = 256 := by decide
        rw [Int32.lt_iff_toInt_lt, e6] at h2
        rw [Int32.le_iff_toInt_le, e5]
        omega
      exact br_f h1 (br_f h2 (br_f h1 (br_f h3 ⟨rfl, J⟩)))
theorem i_vc_smallest {k : Nat} {u : SX} {v : SY} (I : i_Rel k u v) (hk : k + 5 ≤ 2560) : wpX_smallest (fun r => wpY_smallest (fun r' => r' = r ∧ i_Rel (k + 5) u v) v) u := by
  have J : i_Rel (k + 5) u v := I
  obtain ⟨c, f, h, b, kd, dt, rfl, rfl, B, R⟩ := I
  unfold wpX_smallest wpY_smallest
  dsimp only
  obtain ⟨r, hX, hY⟩ := lz_small (h := h) R B 256 0 1000 rfl
  exact ⟨256 + 1, hX _ ⟨256 + 1, hY _ ⟨rfl, J⟩⟩⟩
theorem i_vc_blame {k : Nat} {u : SX} {v : SY} (I : i_Rel k u v) (hk : k + 5 ≤ 2560) : wpX_blame (fun r => wpY_blame (fun r' => r' = r ∧ i_Rel (k + 5) u v) v) u := by
  have J : i_Rel (k + 5) u v := I
  obtain ⟨c, f, h, b, kd, dt, rfl, rfl, B, R⟩ := I
  unfold wpX_blame wpY_blame
  dsimp only
  rcases lz_can f h R B with ⟨cX, cY⟩ | ⟨cX, t, ht, cY⟩
  · obtain ⟨r, hX, hY⟩ := lz_blame (f := f) (h := h) R c 0 f (by omega) B
    exact cX _ (br_t rfl ⟨c + 1, hX _ (cY _ (br_t rfl ⟨c + 1, hY _ ⟨rfl, J⟩⟩))⟩)
  · exact cX _ (br_f (by decide) (cY _ (br_f ht ⟨rfl, J⟩)))
theorem i_vc_follows {k : Nat} {u : SX} {v : SY} (I : i_Rel k u v) (hk : k + 5 ≤ 2560) (v1 : Int32) : wpX_follows (fun r => wpY_follows (fun r' => r' = r ∧ i_Rel (k + 5) u v) v v1) u v1 := by
  have J : i_Rel (k + 5) u v := I
  obtain ⟨c, f, h, b, kd, dt, rfl, rfl, B, R⟩ := I
  have hc := R.1
  unfold wpX_follows wpY_follows
  dsimp only
  rcases pk_ix v1 (n := c) (by omega) with z | z | ⟨q, hq, rfl⟩
  · exact br_t z (br_t rfl (br_t z ⟨rfl, J⟩))
  · by_cases y : v1 < 0
    · exact br_t y (br_t rfl (br_t y ⟨rfl, J⟩))
    · exact br_f y (br_t z (br_t rfl (br_f y (br_f (Int32.not_lt.mpr z) ⟨rfl, J⟩))))
  · obtain ⟨r, hX, hY⟩ := lz_follow (f := f) (h := h) R (lz_Bo (q := q) (by omega) B) hq 256 0 rfl
    exact lz_icT hc hq (br_f (by decide) (nm_e (nm_e ⟨256 + 1, hX _ (br_f (nI_pos (by omega)) (br_t (nI_lt hq (by omega)) (nm_e ⟨256 + 1, hY _ ⟨rfl, J⟩⟩)))⟩)))
