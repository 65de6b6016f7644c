/-! one constraint on one assignment; the relation; a set of constraints on one assignment, on both sides -/
def lz_Sat (kd dt : Nat → Int32) (q : Nat) (a : Int32) : Prop :=
  if kd q = 1 then lz_AD (dt (q * 5)) a else if kd q = 2 then dt (q * 5 + 1) ≤ lz_v a (dt (q * 5)) ∨ lz_v a (dt (q * 5 + 2)) ≤ dt (q * 5 + 3) else lz_s (fun j => dt (q * 5 + j)) a 4 ≤ dt (q * 5 + 4)
theorem lz_Sat1 {kd dt : Nat → Int32} {q : Nat} {a : Int32} (h : kd q = 1) : lz_Sat kd dt q a ↔ lz_AD (dt (q * 5)) a := by
  unfold lz_Sat
  rw [if_pos h]
theorem lz_Sat2 {kd dt : Nat → Int32} {q : Nat} {a : Int32} (h : kd q = 2) : lz_Sat kd dt q a ↔ (dt (q * 5 + 1) ≤ lz_v a (dt (q * 5)) ∨ lz_v a (dt (q * 5 + 2)) ≤ dt (q * 5 + 3)) := by
  unfold lz_Sat
  rw [if_neg (by rw [h]; decide), if_pos h]
theorem lz_Sat0 {kd dt : Nat → Int32} {q : Nat} {a : Int32} (h1 : ¬ kd q = 1) (h2 : ¬ kd q = 2) : lz_Sat kd dt q a ↔ lz_s (fun j => dt (q * 5 + j)) a 4 ≤ dt (q * 5 + 4) := by
  unfold lz_Sat
  rw [if_neg h1, if_neg h2]
theorem lz_SatF {kd dt kd' dt' : Nat → Int32} {q : Nat} {a : Int32} (hk : kd' q = kd q) (hd : ∀ t, t < 5 → dt' (q * 5 + t) = dt (q * 5 + t)) : lz_Sat kd' dt' q a ↔ lz_Sat kd dt q a := by
  have e0 : dt' (q * 5) = dt (q * 5) := hd 0 (by omega)
  have es : lz_s (fun j => dt' (q * 5 + j)) a 4 = lz_s (fun j => dt (q * 5 + j)) a 4 := lz_sc 4 (fun i hi => hd i (by omega))
  unfold lz_Sat
  rw [hk, e0, es, hd 1 (by omega), hd 2 (by omega), hd 3 (by omega), hd 4 (by omega)]
theorem lz_satY {post : Int32 → Prop} {c f : Int32} {h kd dt : Nat → Int32} {q : Nat} (hq : q < 10) {a : Int32} (hT : lz_Sat kd dt q a → post 1) (hF : ¬ lz_Sat kd dt q a → post 0) : wpY_satisfies post (c, f, h, kd, dt) (nI q) a := by
  unfold wpY_satisfies
  dsimp only
  refine nm_r (e' := nI (q * 5)) (pk_mul q 5) ⟨vp_in_nI hq (by decide), ?_⟩
  have hi : vp_in (nI q) 10 := vp_in_nI hq (by decide)
  have h5 : vp_in (nI (q * 5)) 50 := vp_in_nI (by omega) (by decide)
  rw [lz_cl (show q < 1000 by omega)]
  by_cases h1 : kd q = 1
  · refine br_t h1 ⟨h5, ?_⟩
    rw [lz_cl (show q * 5 < 1000 by omega)]
    exact lz_adY (fun z => ⟨rfl, hT ((lz_Sat1 h1).mpr z)⟩) (fun z => ⟨rfl, hF (fun y => z ((lz_Sat1 h1).mp y))⟩)
  · refine br_f h1 ⟨hi, ?_⟩
    by_cases h2 : kd q = 2
    · refine br_t h2 ⟨h5, lz_vY ?_⟩
      rw [show nI (q * 5) + 1 = nI (q * 5 + 1) from nI_add _ 1, show nI (q * 5) + 2 = nI (q * 5 + 2) from nI_add _ 2, show nI (q * 5) + 3 = nI (q * 5 + 3) from nI_add _ 3, lz_cl (show q * 5 < 1000 by omega), lz_cl (show q * 5 + 1 < 1000 by omega), lz_cl (show q * 5 + 2 < 1000 by omega), lz_cl (show q * 5 + 3 < 1000 by omega)]
      refine ⟨vp_in_nI (by omega) (by decide), ?_⟩
      by_cases h3 : dt (q * 5 + 1) ≤ lz_v a (dt (q * 5))
      · exact br_t h3 (hT ((lz_Sat2 h2).mpr (Or.inl h3)))
      · refine br_f h3 ⟨vp_in_nI (by omega) (by decide), lz_vY ⟨vp_in_nI (by omega) (by decide), ?_⟩⟩
        by_cases h4 : dt (q * 5 + 3) < lz_v a (dt (q * 5 + 2))
        · refine br_t h4 (hF fun y => ?_)
          rcases (lz_Sat2 h2).mp y with y | y
          · exact h3 y
          · exact Int32.not_le.mpr h4 y
        · exact br_f h4 (hT ((lz_Sat2 h2).mpr (Or.inr (Int32.not_lt.mp h4))))
    · exact br_f h2 ⟨4 + 1, lz_sYl hq (fun z => hT ((lz_Sat0 h1 h2).mpr z)) (fun z => hF (fun y => z ((lz_Sat0 h1 h2).mp y))) 4 0 rfl⟩
theorem lz_allYl {post : Int32 → Prop} {c : Nat} {f : Int32} {h kd dt : Nat → Int32} (hc : c ≤ 10) {s a : Int32} (hT : (∀ q, q < c → bt s q = true → lz_Sat kd dt q a) → post 1) (hF : ¬ (∀ q, q < c → bt s q = true → lz_Sat kd dt q a) → post 0) : ∀ d i, i + d = c → (∀ q, q < i → bt s q = true → lz_Sat kd dt q a) → wY_satisfiesAll_2 post s a (nI c) f h kd dt (d + 1) (nI i) := by
  intro d
  induction d with
  | zero =>
    intro i hi H
    have e : i = c := by omega
    subst e
    exact br_t (nI_le (Nat.le_refl _) (by omega)) (hT H)
  | succ d ih =>
    intro i hi H
    refine br_f (nI_ge (by omega) (by omega)) ?_
    by_cases h1 : bt s i = true
    · refine br_t ((lz_shr1 (by omega) s).mpr h1) (lz_satY (by omega) (fun z => ?_) (fun z => ?_))
      · exact br_f (by decide) (nm_r (nI_1 i) (ih (i + 1) (by omega) (lt_s H (fun _ => z))))
      · exact br_t rfl (hF fun A => z (A i (by omega) h1))
    · exact br_f (fun z => h1 ((lz_shr1 (by omega) s).mp z)) (nm_r (nI_1 i) (ih (i + 1) (by omega) (lt_s H (fun z => absurd z h1))))
theorem lz_allY {post : Int32 → Prop} {c : Nat} {f : Int32} {h kd dt : Nat → Int32} (hc : c ≤ 10) {s a : Int32} (hT : (∀ q, q < c → bt s q = true → lz_Sat kd dt q a) → post 1) (hF : ¬ (∀ q, q < c → bt s q = true → lz_Sat kd dt q a) → post 0) : wpY_satisfiesAll post (nI c, f, h, kd, dt) s a := ⟨c + 1, lz_allYl hc hT hF c 0 (by omega) (fun t ht => absurd ht (by omega))⟩
/-- no bit at c or beyond -/
def lz_B (c : Nat) (s : Int32) : Prop := ∀ i, c ≤ i → bt s i = false
/-- the table of broken constraints says what the kept constraints say -/
def lz_T (c : Nat) (b kd dt : Nat → Int32) : Prop := c ≤ 10 ∧ ∀ q, q < c → ∀ j, j < 256 → (bt (b j) q = false ↔ lz_Sat kd dt q (nI j))
def i_Rel (_ : Nat) (u : SX) (v : SY) : Prop := ∃ (c : Nat) (f : Int32) (h b kd dt : Nat → Int32), u = (nI c, f, h, b) ∧ v = (nI c, f, h, kd, dt) ∧ lz_B c f ∧ lz_T c b kd dt
theorem lz_key {c : Nat} {b kd dt : Nat → Int32} (R : lz_T c b kd dt) {s : Int32} (hs : lz_B c s) {j : Nat} (hj : j < 256) : b j &&& s = 0 ↔ ∀ q, q < c → bt s q = true → lz_Sat kd dt q (nI j) := by
  rw [lz_z]
  constructor
  · intro h q hq z
    have h' := h q
    rw [b_and, z, Bool.and_true] at h'
    exact (R.2 q hq j hj).mp h'
  · intro h i
    rw [b_and]
    by_cases hi : i < c
    · cases hb : bt s i
      · rw [Bool.and_false]
      · rw [Bool.and_true]
        exact (R.2 i hi j hj).mpr (h i hi hb)
    · rw [hs i (by omega), Bool.and_false]
theorem lz_aX {post : Int32 → Prop} {c f : Int32} {h b : Nat → Int32} {s : Int32} {j : Nat} (hj : j < 256) (hT : b j &&& s = 0 → post 1) (hF : ¬ b j &&& s = 0 → post 0) : wpX_satisfiesAll post (c, f, h, b) s (nI j) := by
  unfold wpX_satisfiesAll
  dsimp only
  refine ⟨vp_in_nI hj (by decide), ?_⟩
  rw [lz_cl (show j < 1000 by omega)]
  exact ⟨hT, hF⟩
theorem lz_aY {post : Int32 → Prop} {c : Nat} {f : Int32} {h b kd dt : Nat → Int32} (R : lz_T c b kd dt) {s : Int32} (hs : lz_B c s) {j : Nat} (hj : j < 256) (hT : b j &&& s = 0 → post 1) (hF : ¬ b j &&& s = 0 → post 0) : wpY_satisfiesAll post (nI c, f, h, kd, dt) s (nI j) :=
  lz_allY R.1 (fun z => hT ((lz_key R hs hj).mpr z)) (fun z => hF (fun y => z ((lz_key R hs hj).mp y)))
