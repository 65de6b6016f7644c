/-! bits of a set of constraints, a variable's value, sums, the all-different test -/
theorem lz_cl {i : Nat} (h : i < 1000) : (nI i).toNatClampNeg = i := nI_clamp (by omega)
theorem lz_b1 (i : Nat) : bt 1 i = decide (i = 0) := by
  rcases Nat.lt_or_ge i 32 with h | h
  · exact (by decide +kernel : ∀ i, i < 32 → bt 1 i = decide (i = 0)) i h
  · rw [b_big h, decide_eq_false (by omega)]
theorem lz_bit {q : Nat} (hq : q < 32) (i : Nat) : bt ((1 : Int32) <<< (nI q &&& 31)) i = decide (i = q) := by
  rcases Nat.lt_or_ge i 32 with h | h
  · rw [b_shl q hq 1 h, lz_b1]
    by_cases z : i = q
    · subst z
      simp
    · rw [decide_eq_false z]
      by_cases y : q ≤ i
      · rw [decide_eq_false (show ¬ i - q = 0 by omega), Bool.and_false]
      · rw [decide_eq_false y, Bool.false_and]
  · rw [b_big h, decide_eq_false (by omega)]
theorem lz_on {q : Nat} (hq : q < 32) (x : Int32) (i : Nat) : bt (x ||| ((1 : Int32) <<< (nI q &&& 31))) i = (bt x i || decide (i = q)) := by rw [b_or, lz_bit hq]
theorem lz_off {q : Nat} (hq : q < 32) (x : Int32) (i : Nat) : bt (x &&& (((1 : Int32) <<< (nI q &&& 31)) ^^^ (-1))) i = (bt x i && !decide (i = q)) := by
  rcases Nat.lt_or_ge i 32 with h | h
  · rw [b_and, b_xor, lz_bit hq, b_m1 i h, Bool.xor_true]
  · rw [b_big h, b_big h, Bool.false_and]
theorem lz_z {x : Int32} : x = 0 ↔ ∀ i, bt x i = false := ⟨fun h i => by rw [h, b_0], fun h => b_ext fun i _ => by rw [h i, b_0]⟩
theorem lz_and0 {q : Nat} (hq : q < 32) (x : Int32) : (x &&& ((1 : Int32) <<< (nI q &&& 31))) = 0 ↔ bt x q = false := by
  rw [lz_z]
  constructor
  · intro h
    have h' := h q
    rw [b_and, lz_bit hq, decide_eq_true rfl, Bool.and_true] at h'
    exact h'
  · intro h i
    rw [b_and, lz_bit hq]
    by_cases z : i = q
    · rw [z, h, Bool.false_and]
    · rw [decide_eq_false z, Bool.and_false]
theorem lz_andn {q : Nat} (hq : q < 32) (x : Int32) (h : bt x q = true) : ¬ (x &&& ((1 : Int32) <<< (nI q &&& 31))) = 0 := by
  rw [lz_and0 hq, h]
  decide
def lz_i (b : Bool) : Int32 := cond b 1 0
theorem lz_shr {q : Nat} (hq : q < 32) (x : Int32) : (x >>> (nI q &&& 31)) &&& 1 = lz_i (bt x q) := by
  apply b_ext
  intro i hi
  rw [b_and, b_sshr q hq x hi, lz_b1]
  by_cases z : i = 0
  · subst z
    rw [decide_eq_true rfl, Bool.and_true, Nat.add_zero, if_pos hq]
    cases bt x q
    · exact (b_0 0).symm
    · exact (lz_b1 0).symm
  · rw [decide_eq_false z, Bool.and_false]
    cases bt x q
    · exact (b_0 i).symm
    · exact ((lz_b1 i).trans (decide_eq_false z)).symm
theorem lz_shr1 {q : Nat} (hq : q < 32) (x : Int32) : (x >>> (nI q &&& 31)) &&& 1 = 1 ↔ bt x q = true := by
  rw [lz_shr hq]
  cases bt x q <;> decide
def lz_v (a i : Int32) : Int32 := (a >>> ((6 - (2 * i)) &&& 31)) &&& 3
theorem lz_vsh (i : Int32) : 2 * (3 - i) = 6 - 2 * i := by grind
theorem lz_vX {post : Int32 → Prop} {a i : Int32} (h : post (lz_v a i)) : wpX_valueIn post a i := nm_r (lz_vsh i) h
theorem lz_vY {post : Int32 → Prop} {c f : Int32} {h kd dt : Nat → Int32} {a i : Int32} (H : post (lz_v a i)) : wpY_valueIn post (c, f, h, kd, dt) a i := H
theorem lz_vlt (a i : Int32) : ∃ w : Nat, w < 4 ∧ lz_v a i = nI w := pk_andE _ 2 (by decide)
def lz_s (h : Nat → Int32) (a : Int32) : Nat → Int32
  | 0 => 0
  | n + 1 => lz_s h a n + h n * lz_v a (nI n)
theorem lz_sc {g h : Nat → Int32} {a : Int32} : ∀ n, (∀ i, i < n → g i = h i) → lz_s g a n = lz_s h a n
  | 0, _ => rfl
  | n + 1, H => by
    show lz_s g a n + g n * lz_v a (nI n) = lz_s h a n + h n * lz_v a (nI n)
    rw [lz_sc n (fun i hi => H i (by omega)), H n (by omega)]
theorem lz_le4 : (4 : Int32) ≤ nI 4 := nI_le (a := 4) (b := 4) (by omega) (by decide)
theorem lz_le256 : (256 : Int32) ≤ nI 256 := nI_le (a := 256) (b := 256) (by omega) (by decide)
theorem lz_n4 {i : Nat} (h : i < 4) : ¬ (4 : Int32) ≤ nI i := nI_ge (b := 4) h (by decide)
theorem lz_n256 {i : Nat} (h : i < 256) : ¬ (256 : Int32) ≤ nI i := nI_ge (b := 256) h (by decide)
theorem lz_sXl {post : Int32 → Prop} {c f : Int32} {h b : Nat → Int32} {a : Int32} (H : post (lz_s h a 4)) : ∀ d i, i + d = 4 → wX_heldSum_4 post a c f h b (d + 1) (lz_s h a i) (nI i) := by
  intro d
  induction d with
  | zero =>
    intro i hi
    have e : i = 4 := by omega
    subst e
    exact br_t lz_le4 H
  | succ d ih =>
    intro i hi
    refine br_f (lz_n4 (by omega)) ⟨vp_in_nI (by omega) (by decide), lz_vX (nm_r (e' := lz_s h a (i + 1)) ?_ (nm_r (nI_1 i) (ih (i + 1) (by omega))))⟩
    rw [lz_cl (show i < 1000 by omega)]
    rfl
theorem lz_sX {post : Int32 → Prop} {c f : Int32} {h b : Nat → Int32} {a : Int32} (H : post (lz_s h a 4)) : wpX_heldSum post (c, f, h, b) a := ⟨4 + 1, lz_sXl H 4 0 rfl⟩
theorem lz_sYl {post : Int32 → Prop} {c f : Int32} {h kd dt : Nat → Int32} {a : Int32} {q : Nat} (hq : q < 10) (hT : lz_s (fun j => dt (q * 5 + j)) a 4 ≤ dt (q * 5 + 4) → post 1) (hF : ¬ lz_s (fun j => dt (q * 5 + j)) a 4 ≤ dt (q * 5 + 4) → post 0) : ∀ d i, i + d = 4 → wY_satisfies_94 post a (nI (q * 5)) c f h kd dt (d + 1) (lz_s (fun j => dt (q * 5 + j)) a i) (nI i) := by
  intro d
  induction d with
  | zero =>
    intro i hi
    have e : i = 4 := by omega
    subst e
    refine br_t lz_le4 ?_
    rw [show nI (q * 5) + 4 = nI (q * 5 + 4) from nI_add _ 4, lz_cl (show q * 5 + 4 < 1000 by omega)]
    refine ⟨vp_in_nI (by omega) (by decide), ?_⟩
    by_cases z : dt (q * 5 + 4) < lz_s (fun j => dt (q * 5 + j)) a 4
    · exact br_t z (hF (Int32.not_le.mpr z))
    · exact br_f z (hT (Int32.not_lt.mp z))
  | succ d ih =>
    intro i hi
    refine br_f (lz_n4 (by omega)) ?_
    rw [nI_add (q * 5) i, lz_cl (show q * 5 + i < 1000 by omega)]
    exact ⟨vp_in_nI (by omega) (by decide), lz_vY (nm_r (e' := lz_s (fun j => dt (q * 5 + j)) a (i + 1)) rfl (nm_r (nI_1 i) (ih (i + 1) (by omega))))⟩
/-- two variables of the set that hold one value -/
def lz_cl2 (s a : Int32) (i j : Nat) : Prop := bt s i = true ∧ bt s j = true ∧ lz_v a (nI i) = lz_v a (nI j)
def lz_AD (s a : Int32) : Prop := ∀ i, i < 4 → ∀ j, j < i → ¬ lz_cl2 s a i j
theorem lz_adYi {post J2 : Int32 → Prop} {c f : Int32} {h kd dt : Nat → Int32} {s a : Int32} {i : Nat} (hi : i < 4) (hc : ∀ j, j < i → lz_cl2 s a i j → post 0) (hn : (∀ j, j < i → ¬ lz_cl2 s a i j) → J2 (nI (i + 1))) : ∀ d j, j + d = i → (∀ t, t < j → ¬ lz_cl2 s a i t) → wY_allDiffer_10 post J2 s a (nI i) c f h kd dt (d + 1) (nI j) := by
  intro d
  induction d with
  | zero =>
    intro j hj H
    have e : j = i := by omega
    subst e
    exact br_t (nI_le (Nat.le_refl _) (by omega)) (nm_r (nI_1 _) (hn H))
  | succ d ih =>
    intro j hj H
    have nx : ¬ lz_cl2 s a i j → wY_allDiffer_10 post J2 s a (nI i) c f h kd dt (d + 1) (nI (j + 1)) := fun z => ih (j + 1) (by omega) (lt_s H z)
    refine br_f (nI_ge (by omega) (by omega)) ?_
    by_cases h1 : bt s i = true
    · refine br_t ((lz_shr1 (by omega) s).mpr h1) ?_
      by_cases h2 : bt s j = true
      · refine br_t ((lz_shr1 (by omega) s).mpr h2) ?_
        refine br_f (by decide) (lz_vY (lz_vY ?_))
        by_cases h3 : lz_v a (nI i) = lz_v a (nI j)
        · exact br_t h3 (hc j (by omega) ⟨h1, h2, h3⟩)
        · exact br_f h3 (nm_r (nI_1 j) (nx fun z => h3 z.2.2))
      · exact br_f (fun z => h2 ((lz_shr1 (by omega) s).mp z)) (br_t rfl (nm_r (nI_1 j) (nx fun z => h2 z.2.1)))
    · exact br_f (fun z => h1 ((lz_shr1 (by omega) s).mp z)) (br_t rfl (nm_r (nI_1 j) (nx fun z => h1 z.1)))
theorem lz_adYo {post : Int32 → Prop} {c f : Int32} {h kd dt : Nat → Int32} {s a : Int32} (hT : lz_AD s a → post 1) (hF : ¬ lz_AD s a → post 0) : ∀ d i, i + d = 4 → (∀ t, t < i → ∀ j, j < t → ¬ lz_cl2 s a t j) → wY_allDiffer_2 post s a c f h kd dt (d + 1) (nI i) := by
  intro d
  induction d with
  | zero =>
    intro i hi H
    have e : i = 4 := by omega
    subst e
    exact br_t lz_le4 (hT H)
  | succ d ih =>
    intro i hi H
    exact br_f (lz_n4 (by omega)) ⟨i + 1, lz_adYi (by omega) (fun j hj z => hF (fun A => A i (by omega) j hj z)) (fun z => ih (i + 1) (by omega) (lt_s H z)) i 0 (by omega) (fun t ht => absurd ht (by omega))⟩
theorem lz_adY {post : Int32 → Prop} {c f : Int32} {h kd dt : Nat → Int32} {s a : Int32} (hT : lz_AD s a → post 1) (hF : ¬ lz_AD s a → post 0) : wpY_allDiffer post (c, f, h, kd, dt) s a := ⟨4 + 1, lz_adYo hT hF 4 0 rfl (fun t ht => absurd ht (by omega))⟩
theorem lz_adXl {post : Int32 → Prop} {s a : Int32} (hT : lz_AD s a → post 1) (hF : ¬ lz_AD s a → post 0) : ∀ (d i : Nat) (x : Int32), i + d = 4 → (∀ w, w < 4 → (bt x w = true ↔ ∃ j, j < i ∧ bt s j = true ∧ lz_v a (nI j) = nI w)) → (∀ t, t < i → ∀ j, j < t → ¬ lz_cl2 s a t j) → wX_allDifferent_4 post s a (d + 1) x (nI i) := by
  intro d
  induction d with
  | zero =>
    intro i x hi _ H
    have e : i = 4 := by omega
    subst e
    exact br_t lz_le4 (hT H)
  | succ d ih =>
    intro i x hi S H
    refine br_f (lz_n4 (by omega)) ?_
    by_cases h1 : bt s i = true
    · refine br_f (lz_andn (by omega) s h1) (lz_vX ?_)
      obtain ⟨w, hw, ew⟩ := lz_vlt a (nI i)
      rw [ew]
      refine nm_e ?_
      by_cases h2 : bt x w = true
      · refine br_f (lz_andn (by omega) x h2) (hF fun A => ?_)
        obtain ⟨j, hj, hb, hv⟩ := (S w hw).mp h2
        exact A i (by omega) j hj ⟨h1, hb, ew.trans hv.symm⟩
      · refine br_t ((lz_and0 (by omega) x).mpr (Bool.eq_false_iff.mpr h2)) (nm_e (nm_r (nI_1 i) (ih (i + 1) _ (by omega) ?_ (lt_s H ?_))))
        · intro y hy
          rw [lz_on (by omega)]
          constructor
          · intro z
            rcases Bool.or_eq_true_iff.mp z with z | z
            · obtain ⟨j, hj, hb, hv⟩ := (S y hy).mp z
              exact ⟨j, by omega, hb, hv⟩
            · have e : y = w := of_decide_eq_true z
              exact ⟨i, by omega, h1, by rw [e]; exact ew⟩
          · rintro ⟨j, hj, hb, hv⟩
            rw [Bool.or_eq_true_iff]
            by_cases e : j = i
            · subst e
              right
              rw [ew] at hv
              exact decide_eq_true ((nI_eq (by omega) (by omega)).mp hv).symm
            · left
              exact (S y hy).mpr ⟨j, by omega, hb, hv⟩
        · intro j hj z
          exact h2 ((S w hw).mpr ⟨j, hj, z.2.1, z.2.2.symm.trans ew⟩)
    · refine br_t ((lz_and0 (by omega) s).mpr (Bool.eq_false_iff.mpr h1)) (nm_r (nI_1 i) (ih (i + 1) x (by omega) ?_ (lt_s H (fun j hj z => h1 z.1))))
      intro y hy
      rw [S y hy]
      constructor
      · rintro ⟨j, hj, r⟩
        exact ⟨j, by omega, r⟩
      · rintro ⟨j, hj, hb, hv⟩
        by_cases e : j = i
        · subst e
          exact absurd hb h1
        · exact ⟨j, by omega, hb, hv⟩
theorem lz_adX {post : Int32 → Prop} {s a : Int32} (hT : lz_AD s a → post 1) (hF : ¬ lz_AD s a → post 0) : wpX_allDifferent post s a := ⟨4 + 1, lz_adXl hT hF 4 0 0 rfl (fun w _ => ⟨fun z => absurd z (by rw [b_0]; decide), fun ⟨j, hj, _⟩ => absurd hj (by omega)⟩) (fun t ht => absurd ht (by omega))⟩
