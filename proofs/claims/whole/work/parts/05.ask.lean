/-! the questions: both sides walk the 256 assignments in step, with one answer r -/
theorem lz_first {c : Nat} {f : Int32} {h b kd dt : Nat → Int32} (R : lz_T c b kd dt) {s : Int32} (hs : lz_B c s) : ∀ d j : Nat, j + d = 256 → ∃ r : Int32, (∀ post : Int32 → Prop, post r → wX_firstSatisfying_2 post s (nI c) f h b (d + 1) (nI j)) ∧ (∀ post : Int32 → Prop, post r → wY_firstOf_2 post s (nI c) f h kd dt (d + 1) (nI j)) := by
  intro d
  induction d with
  | zero =>
    intro j hj
    have e : j = 256 := by omega
    subst e
    exact ⟨-4, fun _ H => br_t lz_le256 H, fun _ H => br_t lz_le256 H⟩
  | succ d ih =>
    intro j hj
    have hn : ¬ (256 : Int32) ≤ nI j := lz_n256 (by omega)
    by_cases z : b j &&& s = 0
    · exact ⟨nI j, fun _ H => br_f hn (lz_aX (by omega) (fun _ => br_f (by decide) H) (fun n => absurd z n)), fun _ H => br_f hn (lz_aY R hs (by omega) (fun _ => br_f (by decide) H) (fun n => absurd z n))⟩
    · obtain ⟨r, hX, hY⟩ := ih (j + 1) (by omega)
      exact ⟨r, fun post H => br_f hn (lz_aX (by omega) (fun n => absurd n z) (fun _ => br_t rfl (nm_r (nI_1 j) (hX post H)))), fun post H => br_f hn (lz_aY R hs (by omega) (fun n => absurd n z) (fun _ => br_t rfl (nm_r (nI_1 j) (hY post H))))⟩
theorem lz_firstW {c : Nat} (f : Int32) (h : Nat → Int32) {b kd dt : Nat → Int32} (R : lz_T c b kd dt) {s : Int32} (hs : lz_B c s) {j : Nat} (hj : j ≤ 256) : ∃ r : Int32, (∀ post : Int32 → Prop, post r → wpX_firstSatisfying post (nI c, f, h, b) s (nI j)) ∧ (∀ post : Int32 → Prop, post r → wpY_firstOf post (nI c, f, h, kd, dt) s (nI j)) := by
  obtain ⟨r, hX, hY⟩ := lz_first (f := f) (h := h) R hs (256 - j) j (by omega)
  exact ⟨r, fun post H => ⟨_, hX post H⟩, fun post H => ⟨_, hY post H⟩⟩
theorem lz_first0 {c : Nat} (f : Int32) (h : Nat → Int32) {b kd dt : Nat → Int32} (R : lz_T c b kd dt) {s : Int32} (hs : lz_B c s) : ∃ r : Int32, (∀ post : Int32 → Prop, post r → wpX_firstSatisfying post (nI c, f, h, b) s 0) ∧ (∀ post : Int32 → Prop, post r → wpY_firstOf post (nI c, f, h, kd, dt) s 0) := by
  have H := lz_firstW f h R hs (j := 0) (by omega)
  rw [nI_0] at H
  exact H
/-- X asks whether a set can be satisfied, Y looks for its first solution -/
theorem lz_can {c : Nat} (f : Int32) (h : Nat → Int32) {b kd dt : Nat → Int32} (R : lz_T c b kd dt) {s : Int32} (hs : lz_B c s) : ((∀ post : Int32 → Prop, post 0 → wpX_canSatisfy post (nI c, f, h, b) s) ∧ (∀ post : Int32 → Prop, post (-4) → wpY_firstOf post (nI c, f, h, kd, dt) s 0)) ∨ ((∀ post : Int32 → Prop, post 1 → wpX_canSatisfy post (nI c, f, h, b) s) ∧ ∃ r : Int32, ¬ r = -4 ∧ ∀ post : Int32 → Prop, post r → wpY_firstOf post (nI c, f, h, kd, dt) s 0) := by
  obtain ⟨r, hX, hY⟩ := lz_first0 f h R hs
  by_cases z : r = -4
  · left
    refine ⟨fun post H => ?_, fun post H => hY post (by rw [z]; exact H)⟩
    unfold wpX_canSatisfy
    dsimp only
    exact hX _ (br_t z H)
  · right
    refine ⟨fun post H => ?_, r, z, hY⟩
    unfold wpX_canSatisfy
    dsimp only
    exact hX _ (br_f z H)
theorem lz_with {c : Nat} {f : Int32} {h b kd dt : Nat → Int32} (R : lz_T c b kd dt) (hs : lz_B c f) {i x : Int32} : ∀ d j : Nat, j + d = 256 → ∃ r : Int32, (∀ post : Int32 → Prop, post r → wX_firstWith_18 post i x (nI c) f h b (d + 1) (nI j)) ∧ (∀ post : Int32 → Prop, post r → wY_firstWith_22 post i x (nI c) f h kd dt (d + 1) (nI j)) := by
  intro d
  induction d with
  | zero =>
    intro j hj
    have e : j = 256 := by omega
    subst e
    exact ⟨-4, fun _ H => br_t lz_le256 H, fun _ H => br_t lz_le256 H⟩
  | succ d ih =>
    intro j hj
    have hn : ¬ (256 : Int32) ≤ nI j := lz_n256 (by omega)
    by_cases y : lz_v (nI j) i = x
    · by_cases z : b j &&& f = 0
      · exact ⟨nI j, fun _ H => br_f hn (lz_vX (br_t y (lz_aX (by omega) (fun _ => br_f (by decide) H) (fun n => absurd z n)))), fun _ H => br_f hn (lz_vY (br_t y (lz_aY R hs (by omega) (fun _ => br_f (by decide) H) (fun n => absurd z n))))⟩
      · obtain ⟨r, hX, hY⟩ := ih (j + 1) (by omega)
        exact ⟨r, fun post H => br_f hn (lz_vX (br_t y (lz_aX (by omega) (fun n => absurd n z) (fun _ => br_t rfl (nm_r (nI_1 j) (hX post H)))))), fun post H => br_f hn (lz_vY (br_t y (lz_aY R hs (by omega) (fun n => absurd n z) (fun _ => br_t rfl (nm_r (nI_1 j) (hY post H))))))⟩
    · obtain ⟨r, hX, hY⟩ := ih (j + 1) (by omega)
      exact ⟨r, fun post H => br_f hn (lz_vX (br_f y (nm_r (nI_1 j) (hX post H)))), fun post H => br_f hn (lz_vY (br_f y (nm_r (nI_1 j) (hY post H))))⟩
theorem lz_vals {c : Nat} {f : Int32} {h b kd dt : Nat → Int32} (R : lz_T c b kd dt) (hs : lz_B c f) {i : Int32} : ∀ (d j : Nat) (x : Int32), j + d = 256 → ∃ r : Int32, (∀ post : Int32 → Prop, post r → wX_values_13 post i (nI c) f h b (d + 1) x (nI j)) ∧ (∀ post : Int32 → Prop, post r → wY_values_15 post i (nI c) f h kd dt (d + 1) x (nI j)) := by
  intro d
  induction d with
  | zero =>
    intro j x hj
    have e : j = 256 := by omega
    subst e
    exact ⟨x, fun _ H => br_t lz_le256 H, fun _ H => br_t lz_le256 H⟩
  | succ d ih =>
    intro j x hj
    have hn : ¬ (256 : Int32) ≤ nI j := lz_n256 (by omega)
    by_cases z : b j &&& f = 0
    · obtain ⟨r, hX, hY⟩ := ih (j + 1) (x ||| ((1 : Int32) <<< (lz_v (nI j) i &&& 31))) (by omega)
      exact ⟨r, fun post H => br_f hn (lz_aX (by omega) (fun _ => br_f (by decide) (lz_vX (nm_e (nm_r (nI_1 j) (hX post H))))) (fun n => absurd z n)), fun post H => br_f hn (lz_aY R hs (by omega) (fun _ => br_f (by decide) (lz_vY (nm_e (nm_r (nI_1 j) (hY post H))))) (fun n => absurd z n))⟩
    · obtain ⟨r, hX, hY⟩ := ih (j + 1) x (by omega)
      exact ⟨r, fun post H => br_f hn (lz_aX (by omega) (fun n => absurd n z) (fun _ => br_t rfl (nm_r (nI_1 j) (hX post H)))), fun post H => br_f hn (lz_aY R hs (by omega) (fun n => absurd n z) (fun _ => br_t rfl (nm_r (nI_1 j) (hY post H))))⟩
/-- Y's sum, then its test of the assignment -/
theorem lz_smY {post : Int32 → Prop} {J6 : Int32 → Int32 → Prop} {c : Nat} {f : Int32} {h b kd dt : Nat → Int32} (R : lz_T c b kd dt) (hs : lz_B c f) {x : Int32} {j : Nat} (hj : j < 256) (hT : ¬ x ≤ lz_s h (nI j) 4 → b j &&& f = 0 → J6 (lz_s h (nI j) 4) (nI (j + 1))) (hF : x ≤ lz_s h (nI j) 4 ∨ ¬ b j &&& f = 0 → J6 x (nI (j + 1))) : ∀ d i : Nat, i + d = 4 → wY_smallest_18 post J6 x (nI j) (nI c) f h kd dt (d + 1) (lz_s h (nI j) i) (nI i) := by
  intro d
  induction d with
  | zero =>
    intro i hi
    have e : i = 4 := by omega
    subst e
    refine br_t lz_le4 ?_
    by_cases z : x ≤ lz_s h (nI j) 4
    · exact br_t z (nm_r (nI_1 j) (hF (Or.inl z)))
    · exact br_f z (lz_aY R hs hj (fun y => br_f (by decide) (nm_r (nI_1 j) (hT z y))) (fun y => br_t rfl (nm_r (nI_1 j) (hF (Or.inr y)))))
  | succ d ih =>
    intro i hi
    refine br_f (lz_n4 (by omega)) ⟨vp_in_nI (by omega) (by decide), lz_vY (nm_r (e' := lz_s h (nI j) (i + 1)) ?_ (nm_r (nI_1 i) (ih (i + 1) (by omega))))⟩
    rw [lz_cl (show i < 1000 by omega)]
    rfl
theorem lz_small {c : Nat} {f : Int32} {h b kd dt : Nat → Int32} (R : lz_T c b kd dt) (hs : lz_B c f) : ∀ (d j : Nat) (x : Int32), j + d = 256 → ∃ r : Int32, (∀ post : Int32 → Prop, post r → wX_smallest_6 post (nI c) f h b (d + 1) x (nI j)) ∧ (∀ post : Int32 → Prop, post r → wY_smallest_6 post (nI c) f h kd dt (d + 1) x (nI j)) := by
  intro d
  induction d with
  | zero =>
    intro j x hj
    have e : j = 256 := by omega
    subst e
    exact ⟨x, fun _ H => br_t lz_le256 H, fun _ H => br_t lz_le256 H⟩
  | succ d ih =>
    intro j x hj
    have hn : ¬ (256 : Int32) ≤ nI j := lz_n256 (by omega)
    by_cases z : b j &&& f = 0
    · by_cases y : x ≤ lz_s h (nI j) 4
      · obtain ⟨r, hX, hY⟩ := ih (j + 1) x (by omega)
        exact ⟨r, fun post H => br_f hn (lz_aX (by omega) (fun _ => br_f (by decide) (lz_sX (br_t y (nm_r (nI_1 j) (hX post H))))) (fun n => absurd z n)), fun post H => br_f hn ⟨4 + 1, lz_smY R hs (by omega) (fun n => absurd y n) (fun _ => hY post H) 4 0 rfl⟩⟩
      · obtain ⟨r, hX, hY⟩ := ih (j + 1) (lz_s h (nI j) 4) (by omega)
        exact ⟨r, fun post H => br_f hn (lz_aX (by omega) (fun _ => br_f (by decide) (lz_sX (br_f y (nm_r (nI_1 j) (hX post H))))) (fun n => absurd z n)), fun post H => br_f hn ⟨4 + 1, lz_smY R hs (by omega) (fun _ _ => hY post H) (fun n => n.elim (fun n => absurd n y) (fun n => absurd z n)) 4 0 rfl⟩⟩
    · obtain ⟨r, hX, hY⟩ := ih (j + 1) x (by omega)
      exact ⟨r, fun post H => br_f hn (lz_aX (by omega) (fun n => absurd n z) (fun _ => br_t rfl (nm_r (nI_1 j) (hX post H)))), fun post H => br_f hn ⟨4 + 1, lz_smY R hs (by omega) (fun _ n => absurd n z) (fun _ => hY post H) 4 0 rfl⟩⟩
theorem lz_Bo {c q : Nat} (hq : q < 32) {s : Int32} (h : lz_B c s) : lz_B c (s &&& (((1 : Int32) <<< (nI q &&& 31)) ^^^ (-1))) := by
  intro i hi
  rw [lz_off hq, h i hi, Bool.false_and]
theorem lz_blame {c : Nat} {f : Int32} {h b kd dt : Nat → Int32} (R : lz_T c b kd dt) : ∀ (d i : Nat) (x : Int32), i + d = c → lz_B c x → ∃ r : Int32, (∀ post : Int32 → Prop, post r → wX_blame_20 post (nI c) f h b (d + 1) x (nI i)) ∧ (∀ post : Int32 → Prop, post r → wY_blame_20 post (nI c) f h kd dt (d + 1) x (nI i)) := by
  have hc := R.1
  intro d
  induction d with
  | zero =>
    intro i x hi _
    have e : nI c ≤ nI i := nI_le (by omega) (by omega)
    exact ⟨x, fun _ H => br_t e H, fun _ H => br_t e H⟩
  | succ d ih =>
    intro i x hi hx
    have hn : ¬ nI c ≤ nI i := nI_ge (by omega) (by omega)
    have hw : lz_B c (x &&& (((1 : Int32) <<< (nI i &&& 31)) ^^^ (-1))) := lz_Bo (by omega) hx
    rcases lz_can f h R hw with ⟨cX, cY⟩ | ⟨cX, t, ht, cY⟩
    · obtain ⟨r, hX, hY⟩ := ih (i + 1) _ (by omega) hw
      exact ⟨r, fun post H => br_f hn (nm_e (cX _ (br_t rfl (nm_r (nI_1 i) (hX post H))))), fun post H => br_f hn (nm_e (cY _ (br_t rfl (nm_r (nI_1 i) (hY post H)))))⟩
    · obtain ⟨r, hX, hY⟩ := ih (i + 1) x (by omega) hx
      exact ⟨r, fun post H => br_f hn (nm_e (cX _ (br_f (by decide) (nm_r (nI_1 i) (hX post H))))), fun post H => br_f hn (nm_e (cY _ (br_f ht (nm_r (nI_1 i) (hY post H)))))⟩
theorem lz_follow {c : Nat} {f : Int32} {h b kd dt : Nat → Int32} (R : lz_T c b kd dt) {s : Int32} (hs : lz_B c s) {q : Nat} (hq : q < c) : ∀ d j : Nat, j + d = 256 → ∃ r : Int32, (∀ post : Int32 → Prop, post r → wX_follows_26 post ((1 : Int32) <<< (nI q &&& 31)) s (nI c) f h b (d + 1) (nI j)) ∧ (∀ post : Int32 → Prop, post r → wY_follows_27 post (nI q) s (nI c) f h kd dt (d + 1) (nI j)) := by
  have hc := R.1
  intro d
  induction d with
  | zero =>
    intro j hj
    have e : j = 256 := by omega
    subst e
    exact ⟨1, fun _ H => br_t lz_le256 H, fun _ H => br_t lz_le256 H⟩
  | succ d ih =>
    intro j hj
    have hn : ¬ (256 : Int32) ≤ nI j := lz_n256 (by omega)
    obtain ⟨r, hX, hY⟩ := ih (j + 1) (by omega)
    by_cases z : b j &&& s = 0
    · have k : b j &&& ((1 : Int32) <<< (nI q &&& 31)) = 0 ↔ lz_Sat kd dt q (nI j) := (lz_and0 (by omega) _).trans (R.2 q hq j (by omega))
      by_cases y : lz_Sat kd dt q (nI j)
      · exact ⟨r, fun post H => br_f hn (lz_aX (by omega) (fun _ => br_f (by decide) (lz_aX (by omega) (fun _ => br_f (by decide) (nm_r (nI_1 j) (hX post H))) (fun n => absurd (k.mpr y) n))) (fun n => absurd z n)), fun post H => br_f hn (lz_aY R hs (by omega) (fun _ => br_f (by decide) (lz_satY (by omega) (fun _ => br_f (by decide) (nm_r (nI_1 j) (hY post H))) (fun n => absurd y n))) (fun n => absurd z n))⟩
      · exact ⟨0, fun post H => br_f hn (lz_aX (by omega) (fun _ => br_f (by decide) (lz_aX (by omega) (fun n => absurd (k.mp n) y) (fun _ => br_t rfl H))) (fun n => absurd z n)), fun post H => br_f hn (lz_aY R hs (by omega) (fun _ => br_f (by decide) (lz_satY (by omega) (fun n => absurd n y) (fun _ => br_t rfl H))) (fun n => absurd z n))⟩
    · exact ⟨r, fun post H => br_f hn (lz_aX (by omega) (fun n => absurd n z) (fun _ => br_t rfl (nm_r (nI_1 j) (hX post H)))), fun post H => br_f hn (lz_aY R hs (by omega) (fun n => absurd n z) (fun _ => br_t rfl (nm_r (nI_1 j) (hY post H))))⟩
