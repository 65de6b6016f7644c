/-! a new constraint: the table's new column, the reference's new record -/
theorem lz_admX {post : Int32 → SX → Prop} {c : Nat} {f : Int32} {h b : Nat → Int32} (H : post (nI c) (nI (c + 1), f ||| ((1 : Int32) <<< (nI c &&& 31)), h, b)) : wpX_admitNewConstraint post (nI c, f, h, b) := by
  unfold wpX_admitNewConstraint
  dsimp only
  exact nm_e (nm_r (nI_1 c) H)
theorem lz_makeY {post : Int32 → SY → Prop} {c : Nat} (hc : c < 10) {f : Int32} {h kd dt : Nat → Int32} {p : Int32} (H : post (nI c) (nI (c + 1), f ||| ((1 : Int32) <<< (nI c &&& 31)), h, upd kd c p, dt)) : wpY_make post (nI c, f, h, kd, dt) p := by
  unfold wpY_make
  dsimp only
  refine ⟨vp_in_nI hc (by decide), ?_⟩
  rw [lz_cl (show c < 1000 by omega)]
  refine nm_e (nm_e (nm_r (nI_1 c) ?_))
  rw [nI_pred]
  exact H
/-- the old columns stand, the new one is right below i -/
def lz_Inv (c : Nat) (b : Nat → Int32) (P : Nat → Prop) (i : Nat) (b' : Nat → Int32) : Prop := ∀ j, (∀ q, q < c → bt (b' j) q = bt (b j) q) ∧ (j < i → (bt (b' j) c = false ↔ P j))
theorem lz_Inv0 {c : Nat} {b : Nat → Int32} {P : Nat → Prop} : lz_Inv c b P 0 b := fun _ => ⟨fun _ _ => rfl, fun h => absurd h (by omega)⟩
theorem lz_recX {post : SX → Prop} {c : Nat} (hc : c < 10) {f : Int32} {h b b' : Nat → Int32} {P : Nat → Prop} {j : Nat} (hj : j < 256) {z : Int32} (hz : z = 0 ∧ ¬ P j ∨ z = 1 ∧ P j) (I : lz_Inv c b P j b') (H : ∀ b'', lz_Inv c b P (j + 1) b'' → post (nI c, f, h, b'')) : wpX_recordForNewConstraint post (nI c, f, h, b') (nI j) z := by
  unfold wpX_recordForNewConstraint
  dsimp only
  have hi : vp_in (nI j) 256 := vp_in_nI hj (by decide)
  rw [lz_cl (show j < 1000 by omega)]
  refine nm_e ?_
  rcases hz with ⟨rfl, hp⟩ | ⟨rfl, hp⟩
  · refine br_t rfl ⟨hi, hi, nm_e (H _ ?_)⟩
    intro t
    by_cases e : t = j
    · subst e
      rw [pk_us]
      refine ⟨fun q hq => ?_, fun _ => ?_⟩
      · rw [lz_on (by omega), decide_eq_false (by omega), Bool.or_false]
        exact (I t).1 q hq
      · rw [lz_on (by omega), decide_eq_true rfl, Bool.or_true]
        exact ⟨fun n => absurd n (by decide), fun n => absurd n hp⟩
    · rw [pk_un e]
      exact ⟨(I t).1, fun ht => (I t).2 (by omega)⟩
  · refine br_f (by decide) ⟨hi, hi, nm_e (H _ ?_)⟩
    intro t
    by_cases e : t = j
    · subst e
      rw [pk_us]
      refine ⟨fun q hq => ?_, fun _ => ?_⟩
      · rw [lz_off (by omega), decide_eq_false (by omega), Bool.not_false, Bool.and_true]
        exact (I t).1 q hq
      · rw [lz_off (by omega), decide_eq_true rfl, Bool.not_true, Bool.and_false]
        exact ⟨fun _ => hp, fun _ => rfl⟩
    · rw [pk_un e]
      exact ⟨(I t).1, fun ht => (I t).2 (by omega)⟩
theorem lz_linX {post : Int32 → SX → Prop} {c : Nat} (hc : c < 10) {f : Int32} {h b : Nat → Int32} {x : Int32} (H : ∀ b'', lz_Inv c b (fun j => lz_s h (nI j) 4 ≤ x) 256 b'' → post (nI c) (nI (c + 1), f ||| ((1 : Int32) <<< (nI c &&& 31)), h, b'')) : ∀ (d j : Nat) (b' : Nat → Int32), j + d = 256 → lz_Inv c b (fun j => lz_s h (nI j) 4 ≤ x) j b' → wX_linear_28 post x (d + 1) (nI j) (nI c) f h b' := by
  intro d
  induction d with
  | zero =>
    intro j b' hj I
    have e : j = 256 := by omega
    subst e
    exact br_t lz_le256 (lz_admX (H b' I))
  | succ d ih =>
    intro j b' hj I
    refine br_f (lz_n256 (by omega)) (lz_sX ?_)
    by_cases z : x < lz_s h (nI j) 4
    · refine br_t z ?_
      unfold wX_linear_49
      exact lz_recX hc (by omega) (Or.inl ⟨rfl, Int32.not_le.mpr z⟩) I (fun b'' I' => nm_r (nI_1 j) (ih (j + 1) b'' (by omega) I'))
    · refine br_f z ?_
      unfold wX_linear_49
      exact lz_recX hc (by omega) (Or.inr ⟨rfl, Int32.not_lt.mp z⟩) I (fun b'' I' => nm_r (nI_1 j) (ih (j + 1) b'' (by omega) I'))
theorem lz_difX {post : Int32 → SX → Prop} {c : Nat} (hc : c < 10) {f : Int32} {h b : Nat → Int32} {x : Int32} (H : ∀ b'', lz_Inv c b (fun j => lz_AD x (nI j)) 256 b'' → post (nI c) (nI (c + 1), f ||| ((1 : Int32) <<< (nI c &&& 31)), h, b'')) : ∀ (d j : Nat) (b' : Nat → Int32), j + d = 256 → lz_Inv c b (fun j => lz_AD x (nI j)) j b' → wX_differ_26 post x (d + 1) (nI j) (nI c) f h b' := by
  intro d
  induction d with
  | zero =>
    intro j b' hj I
    have e : j = 256 := by omega
    subst e
    exact br_t lz_le256 (lz_admX (H b' I))
  | succ d ih =>
    intro j b' hj I
    refine br_f (lz_n256 (by omega)) (lz_adX (fun z => ?_) (fun z => ?_))
    · exact lz_recX hc (by omega) (Or.inr ⟨rfl, z⟩) I (fun b'' I' => nm_r (nI_1 j) (ih (j + 1) b'' (by omega) I'))
    · exact lz_recX hc (by omega) (Or.inl ⟨rfl, z⟩) I (fun b'' I' => nm_r (nI_1 j) (ih (j + 1) b'' (by omega) I'))
theorem lz_eitX {post : Int32 → SX → Prop} {c : Nat} (hc : c < 10) {f : Int32} {h b : Nat → Int32} {p0 p1 p2 p3 : Int32} (H : ∀ b'', lz_Inv c b (fun j => p1 ≤ lz_v (nI j) p0 ∨ lz_v (nI j) p2 ≤ p3) 256 b'' → post (nI c) (nI (c + 1), f ||| ((1 : Int32) <<< (nI c &&& 31)), h, b'')) : ∀ (d j : Nat) (b' : Nat → Int32), j + d = 256 → lz_Inv c b (fun j => p1 ≤ lz_v (nI j) p0 ∨ lz_v (nI j) p2 ≤ p3) j b' → wX_either_46 post p0 p1 p2 p3 (d + 1) (nI j) (nI c) f h b' := by
  intro d
  induction d with
  | zero =>
    intro j b' hj I
    have e : j = 256 := by omega
    subst e
    exact br_t lz_le256 (lz_admX (H b' I))
  | succ d ih =>
    intro j b' hj I
    refine br_f (lz_n256 (by omega)) (lz_vX ?_)
    by_cases z : p1 ≤ lz_v (nI j) p0
    · refine br_t z ?_
      unfold wX_either_75 wX_either_80
      exact lz_recX hc (by omega) (Or.inr ⟨rfl, Or.inl z⟩) I (fun b'' I' => nm_r (nI_1 j) (ih (j + 1) b'' (by omega) I'))
    · refine br_f z (lz_vX ?_)
      by_cases y : p3 < lz_v (nI j) p2
      · refine br_t y ?_
        unfold wX_either_80
        exact lz_recX hc (by omega) (Or.inl ⟨rfl, fun n => n.elim z (Int32.not_le.mpr y)⟩) I (fun b'' I' => nm_r (nI_1 j) (ih (j + 1) b'' (by omega) I'))
      · refine br_f y ?_
        unfold wX_either_75 wX_either_80
        exact lz_recX hc (by omega) (Or.inr ⟨rfl, Or.inr (Int32.not_lt.mp y)⟩) I (fun b'' I' => nm_r (nI_1 j) (ih (j + 1) b'' (by omega) I'))
theorem lz_5a {c : Nat} : nI c * 5 = nI (c * 5) := pk_mul c 5
theorem lz_linY {post : Int32 → SY → Prop} {c : Nat} (hc : c < 10) {f : Int32} {h kd dt : Nat → Int32} {x : Int32} (H : ∀ dt'', (∀ t, t < c * 5 → dt'' t = dt t) → (∀ t, t < 4 → dt'' (c * 5 + t) = h t) → dt'' (c * 5 + 4) = x → post (nI c) (nI (c + 1), f ||| ((1 : Int32) <<< (nI c &&& 31)), h, upd kd c 0, dt'')) : ∀ (d i : Nat) (dt' : Nat → Int32), i + d = 4 → (∀ t, t < c * 5 → dt' t = dt t) → (∀ t, t < i → dt' (c * 5 + t) = h t) → wY_linear_28 post x (nI c) f (d + 1) (nI i) h kd dt' := by
  intro d
  induction d with
  | zero =>
    intro i dt' hi I1 I2
    have e : i = 4 := by omega
    subst e
    refine br_t lz_le4 ?_
    rw [lz_5a, show nI (c * 5) + 4 = nI (c * 5 + 4) from nI_add _ 4, lz_cl (show c * 5 + 4 < 1000 by omega)]
    refine ⟨vp_in_nI (by omega) (by decide), nm_e (lz_makeY hc (H _ (fun t ht => ?_) (fun t ht => ?_) pk_us))⟩
    · rw [pk_un (by omega)]
      exact I1 t ht
    · rw [pk_un (by omega)]
      exact I2 t ht
  | succ d ih =>
    intro i dt' hi I1 I2
    refine br_f (lz_n4 (by omega)) ?_
    rw [lz_5a, nI_add (c * 5) i, lz_cl (show c * 5 + i < 1000 by omega), lz_cl (show i < 1000 by omega)]
    refine ⟨vp_in_nI (by omega) (by decide), vp_in_nI (by omega) (by decide), nm_e (nm_r (nI_1 i) (ih (i + 1) _ (by omega) (fun t ht => ?_) (lt_s (fun t ht => ?_) pk_us)))⟩
    · rw [pk_un (by omega)]
      exact I1 t ht
    · rw [pk_un (by omega)]
      exact I2 t ht
theorem lz_Bg {c : Nat} (hc : c < 10) {f : Int32} (h : lz_B c f) : lz_B (c + 1) (f ||| ((1 : Int32) <<< (nI c &&& 31))) := by
  intro i hi
  rw [lz_on (by omega), h i (by omega), decide_eq_false (by omega), Bool.or_false]
theorem lz_grow {c : Nat} {b kd dt : Nat → Int32} (R : lz_T c b kd dt) (hc : c < 10) {P : Nat → Prop} {b' dt' : Nat → Int32} (I : lz_Inv c b P 256 b') (hd : ∀ t, t < c * 5 → dt' t = dt t) {p : Int32} (hP : ∀ j, j < 256 → (P j ↔ lz_Sat (upd kd c p) dt' c (nI j))) : lz_T (c + 1) b' (upd kd c p) dt' := by
  refine ⟨by omega, fun q hq j hj => ?_⟩
  by_cases e : q = c
  · subst e
    exact ((I j).2 hj).trans (hP j hj)
  · rw [(I j).1 q (by omega)]
    exact (R.2 q (by omega) j hj).trans (lz_SatF (pk_un e) (fun t ht => hd _ (by omega))).symm
