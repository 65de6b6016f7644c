section
/-! pasted rows: Int32 by its bits; stores, products, masks -/
def bt (x : Int32) (i : Nat) : Bool := x.toBitVec.getLsbD i
theorem b_ext {x y : Int32} (h : ∀ i, i < 32 → bt x i = bt y i) : x = y := Int32.toBitVec_inj.mp (BitVec.eq_of_getLsbD_eq (fun i hi => h i hi))
theorem b_or (x y : Int32) (i : Nat) : bt (x ||| y) i = (bt x i || bt y i) := by unfold bt; rw [Int32.toBitVec_or, BitVec.getLsbD_or]
theorem b_and (x y : Int32) (i : Nat) : bt (x &&& y) i = (bt x i && bt y i) := by unfold bt; rw [Int32.toBitVec_and, BitVec.getLsbD_and]
theorem b_xor (x y : Int32) (i : Nat) : bt (x ^^^ y) i = (bt x i ^^ bt y i) := by unfold bt; rw [Int32.toBitVec_xor, BitVec.getLsbD_xor]
theorem b_big {x : Int32} {i : Nat} (h : 32 ≤ i) : bt x i = false := BitVec.getLsbD_of_ge _ _ h
theorem b_m1 : ∀ i, i < 32 → bt (-1) i = true := by decide +kernel
theorem b_0 (i : Nat) : bt 0 i = false := BitVec.getLsbD_zero
theorem s_l : ∀ n, n < 32 → ((nI n &&& 31).toBitVec.smod 32).toNat = n := by decide +kernel
theorem b_shl (n : Nat) (hn : n < 32) (x : Int32) {i : Nat} (hi : i < 32) : bt (x <<< (nI n &&& 31)) i = (decide (n ≤ i) && bt x (i - n)) := by
  unfold bt
  rw [Int32.toBitVec_shiftLeft]
  show (x.toBitVec <<< ((nI n &&& 31).toBitVec.smod 32).toNat).getLsbD i = _
  rw [s_l n hn, BitVec.getLsbD_shiftLeft]
  rcases Nat.lt_or_ge i n with h | h
  · simp [h, Nat.not_le.mpr h]
  · simp [hi, h, Nat.not_lt.mpr h]
theorem b_sshr (n : Nat) (hn : n < 32) (x : Int32) {i : Nat} (hi : i < 32) : bt (x >>> (nI n &&& 31)) i = if n + i < 32 then bt x (n + i) else bt x 31 := by
  unfold bt
  rw [Int32.toBitVec_shiftRight]
  show (x.toBitVec.sshiftRight ((nI n &&& 31).toBitVec.smod 32).toNat).getLsbD i = _
  rw [s_l n hn, BitVec.getLsbD_sshiftRight, BitVec.msb_eq_getLsbD_last]
  simp [hi]
theorem pk_us {f : Nat → Int32} {k : Nat} {x : Int32} : upd f k x k = x := if_pos rfl
theorem pk_un {f : Nat → Int32} {k j : Nat} {x : Int32} (h : j ≠ k) : upd f k x j = f j := if_neg h
theorem pk_mul (a b : Nat) : nI a * nI b = nI (a * b) := (Int32.ofNat_mul a b).symm
theorem pk_ix (x : Int32) {n : Nat} (hn : n < 2 ^ 31) : x < 0 ∨ nI n ≤ x ∨ ∃ j : Nat, j < n ∧ x = nI j := by
  by_cases h : x < 0
  · exact Or.inl h
  · obtain ⟨j, hj, rfl⟩ := nI_of h
    by_cases h2 : j < n
    · exact Or.inr (Or.inr ⟨j, h2, rfl⟩)
    · exact Or.inr (Or.inl (nI_le (by omega) hj))
theorem pk_and (x : Int32) {m : Int32} (k : Nat) (hm : m.toBitVec.toNat = 2 ^ k - 1) : x &&& m = nI (x.toBitVec.toNat % 2 ^ k) := by
  apply Int32.toBitVec_inj.mp
  apply BitVec.eq_of_toNat_eq
  rw [Int32.toBitVec_and, BitVec.toNat_and, hm, Nat.and_two_pow_sub_one_eq_mod]
  show _ = (BitVec.ofNat 32 _).toNat
  rw [BitVec.toNat_ofNat]
  exact (Nat.mod_eq_of_lt (Nat.lt_of_le_of_lt (Nat.mod_le _ _) x.toBitVec.isLt)).symm
theorem pk_andE (x : Int32) {m : Int32} (k : Nat) (hm : m.toBitVec.toNat = 2 ^ k - 1) : ∃ j : Nat, j < 2 ^ k ∧ x &&& m = nI j := ⟨_, Nat.mod_lt _ (Nat.two_pow_pos k), pk_and x k hm⟩
end
section
/-! bits of a set of constraints, a variable's value, sums, the all-different test -/
theorem lz_cl {i : Nat} (h : i < 1000) : (nI i).toNatClampNeg = i := nI_clamp (by omega)
theorem lz_b1 (i : Nat) : bt 1 i = decide (i = 0) := by
  rcases Nat.lt_or_ge i 32 with h | h
  · exact (by decide +kernel : ∀ i, i < 32 → bt 1 i = decide (i = 0)) i h
  · rw [b_big h, decide_eq_false (by omega)]
theorem lz_bit {q : Nat} (hq : q < 32) (i : Nat) : bt ((1 : Int32) <<< (nI q &&& 31)) i = decide (i = q) := by
  rcases Nat.lt_or_ge i 32 with h | h
  · rw [b_shl q hq 1 h, lz_b1]
    by_cases z : i = q
    · subst z
      simp
    · rw [decide_eq_false z]
      by_cases y : q ≤ i
      · rw [decide_eq_false (show ¬ i - q = 0 by omega), Bool.and_false]
      · rw [decide_eq_false y, Bool.false_and]
  · rw [b_big h, decide_eq_false (by omega)]
theorem lz_on {q : Nat} (hq : q < 32) (x : Int32) (i : Nat) : bt (x ||| ((1 : Int32) <<< (nI q &&& 31))) i = (bt x i || decide (i = q)) := by rw [b_or, lz_bit hq]
theorem lz_off {q : Nat} (hq : q < 32) (x : Int32) (i : Nat) : bt (x &&& (((1 : Int32) <<< (nI q &&& 31)) ^^^ (-1))) i = (bt x i && !decide (i = q)) := by
  rcases Nat.lt_or_ge i 32 with h | h
  · rw [b_and, b_xor, lz_bit hq, b_m1 i h, Bool.xor_true]
  · rw [b_big h, b_big h, Bool.false_and]
theorem lz_z {x : Int32} : x = 0 ↔ ∀ i, bt x i = false := ⟨fun h i => by rw [h, b_0], fun h => b_ext fun i _ => by rw [h i, b_0]⟩
theorem lz_and0 {q : Nat} (hq : q < 32) (x : Int32) : (x &&& ((1 : Int32) <<< (nI q &&& 31))) = 0 ↔ bt x q = false := by
  rw [lz_z]
  constructor
  · intro h
    have h' := h q
    rw [b_and, lz_bit hq, decide_eq_true rfl, Bool.and_true] at h'
    exact h'
  · intro h i
    rw [b_and, lz_bit hq]
    by_cases z : i = q
    · rw [z, h, Bool.false_and]
    · rw [decide_eq_false z, Bool.and_false]
theorem lz_andn {q : Nat} (hq : q < 32) (x : Int32) (h : bt x q = true) : ¬ (x &&& ((1 : Int32) <<< (nI q &&& 31))) = 0 := by
  rw [lz_and0 hq, h]
  decide
def lz_i (b : Bool) : Int32 := cond b 1 0
theorem lz_shr {q : Nat} (hq : q < 32) (x : Int32) : (x >>> (nI q &&& 31)) &&& 1 = lz_i (bt x q) := by
  apply b_ext
  intro i hi
  rw [b_and, b_sshr q hq x hi, lz_b1]
  by_cases z : i = 0
  · subst z
    rw [decide_eq_true rfl, Bool.and_true, Nat.add_zero, if_pos hq]
    cases bt x q
    · exact (b_0 0).symm
    · exact (lz_b1 0).symm
  · rw [decide_eq_false z, Bool.and_false]
    cases bt x q
    · exact (b_0 i).symm
    · exact ((lz_b1 i).trans (decide_eq_false z)).symm
theorem lz_shr1 {q : Nat} (hq : q < 32) (x : Int32) : (x >>> (nI q &&& 31)) &&& 1 = 1 ↔ bt x q = true := by
  rw [lz_shr hq]
  cases bt x q <;> decide
def lz_v (a i : Int32) : Int32 := (a >>> ((6 - (2 * i)) &&& 31)) &&& 3
theorem lz_vsh (i : Int32) : 2 * (3 - i) = 6 - 2 * i := by grind
theorem lz_vX {post : Int32 → Prop} {a i : Int32} (h : post (lz_v a i)) : wpX_valueIn post a i := nm_r (lz_vsh i) h
theorem lz_vY {post : Int32 → Prop} {c f : Int32} {h kd dt : Nat → Int32} {a i : Int32} (H : post (lz_v a i)) : wpY_valueIn post (c, f, h, kd, dt) a i := H
theorem lz_vlt (a i : Int32) : ∃ w : Nat, w < 4 ∧ lz_v a i = nI w := pk_andE _ 2 (by decide)
def lz_s (h : Nat → Int32) (a : Int32) : Nat → Int32
  | 0 => 0
  | n + 1 => lz_s h a n + h n * lz_v a (nI n)
theorem lz_sc {g h : Nat → Int32} {a : Int32} : ∀ n, (∀ i, i < n → g i = h i) → lz_s g a n = lz_s h a n
  | 0, _ => rfl
  | n + 1, H => by
    show lz_s g a n + g n * lz_v a (nI n) = lz_s h a n + h n * lz_v a (nI n)
    rw [lz_sc n (fun i hi => H i (by omega)), H n (by omega)]
theorem lz_le4 : (4 : Int32) ≤ nI 4 := nI_le (a := 4) (b := 4) (by omega) (by decide)
theorem lz_le256 : (256 : Int32) ≤ nI 256 := nI_le (a := 256) (b := 256) (by omega) (by decide)
theorem lz_n4 {i : Nat} (h : i < 4) : ¬ (4 : Int32) ≤ nI i := nI_ge (b := 4) h (by decide)
theorem lz_n256 {i : Nat} (h : i < 256) : ¬ (256 : Int32) ≤ nI i := nI_ge (b := 256) h (by decide)
theorem lz_sXl {post : Int32 → Prop} {c f : Int32} {h b : Nat → Int32} {a : Int32} (H : post (lz_s h a 4)) : ∀ d i, i + d = 4 → wX_heldSum_4 post a c f h b (d + 1) (lz_s h a i) (nI i) := by
  intro d
  induction d with
  | zero =>
    intro i hi
    have e : i = 4 := by omega
    subst e
    exact br_t lz_le4 H
  | succ d ih =>
    intro i hi
    refine br_f (lz_n4 (by omega)) ⟨vp_in_nI (by omega) (by decide), lz_vX (nm_r (e' := lz_s h a (i + 1)) ?_ (nm_r (nI_1 i) (ih (i + 1) (by omega))))⟩
    rw [lz_cl (show i < 1000 by omega)]
    rfl
theorem lz_sX {post : Int32 → Prop} {c f : Int32} {h b : Nat → Int32} {a : Int32} (H : post (lz_s h a 4)) : wpX_heldSum post (c, f, h, b) a := ⟨4 + 1, lz_sXl H 4 0 rfl⟩
theorem lz_sYl {post : Int32 → Prop} {c f : Int32} {h kd dt : Nat → Int32} {a : Int32} {q : Nat} (hq : q < 10) (hT : lz_s (fun j => dt (q * 5 + j)) a 4 ≤ dt (q * 5 + 4) → post 1) (hF : ¬ lz_s (fun j => dt (q * 5 + j)) a 4 ≤ dt (q * 5 + 4) → post 0) : ∀ d i, i + d = 4 → wY_satisfies_94 post a (nI (q * 5)) c f h kd dt (d + 1) (lz_s (fun j => dt (q * 5 + j)) a i) (nI i) := by
  intro d
  induction d with
  | zero =>
    intro i hi
    have e : i = 4 := by omega
    subst e
    refine br_t lz_le4 ?_
    rw [show nI (q * 5) + 4 = nI (q * 5 + 4) from nI_add _ 4, lz_cl (show q * 5 + 4 < 1000 by omega)]
    refine ⟨vp_in_nI (by omega) (by decide), ?_⟩
    by_cases z : dt (q * 5 + 4) < lz_s (fun j => dt (q * 5 + j)) a 4
    · exact br_t z (hF (Int32.not_le.mpr z))
    · exact br_f z (hT (Int32.not_lt.mp z))
  | succ d ih =>
    intro i hi
    refine br_f (lz_n4 (by omega)) ?_
    rw [nI_add (q * 5) i, lz_cl (show q * 5 + i < 1000 by omega)]
    exact ⟨vp_in_nI (by omega) (by decide), lz_vY (nm_r (e' := lz_s (fun j => dt (q * 5 + j)) a (i + 1)) rfl (nm_r (nI_1 i) (ih (i + 1) (by omega))))⟩
/-- two variables of the set that hold one value -/
def lz_cl2 (s a : Int32) (i j : Nat) : Prop := bt s i = true ∧ bt s j = true ∧ lz_v a (nI i) = lz_v a (nI j)
def lz_AD (s a : Int32) : Prop := ∀ i, i < 4 → ∀ j, j < i → ¬ lz_cl2 s a i j
theorem lz_adYi {post J2 : Int32 → Prop} {c f : Int32} {h kd dt : Nat → Int32} {s a : Int32} {i : Nat} (hi : i < 4) (hc : ∀ j, j < i → lz_cl2 s a i j → post 0) (hn : (∀ j, j < i → ¬ lz_cl2 s a i j) → J2 (nI (i + 1))) : ∀ d j, j + d = i → (∀ t, t < j → ¬ lz_cl2 s a i t) → wY_allDiffer_10 post J2 s a (nI i) c f h kd dt (d + 1) (nI j) := by
  intro d
  induction d with
  | zero =>
    intro j hj H
    have e : j = i := by omega
    subst e
    exact br_t (nI_le (Nat.le_refl _) (by omega)) (nm_r (nI_1 _) (hn H))
  | succ d ih =>
    intro j hj H
    have nx : ¬ lz_cl2 s a i j → wY_allDiffer_10 post J2 s a (nI i) c f h kd dt (d + 1) (nI (j + 1)) := fun z => ih (j + 1) (by omega) (lt_s H z)
    refine br_f (nI_ge (by omega) (by omega)) ?_
    by_cases h1 : bt s i = true
    · refine br_t ((lz_shr1 (by omega) s).mpr h1) ?_
      by_cases h2 : bt s j = true
      · refine br_t ((lz_shr1 (by omega) s).mpr h2) ?_
        refine br_f (by decide) (lz_vY (lz_vY ?_))
        by_cases h3 : lz_v a (nI i) = lz_v a (nI j)
        · exact br_t h3 (hc j (by omega) ⟨h1, h2, h3⟩)
        · exact br_f h3 (nm_r (nI_1 j) (nx fun z => h3 z.2.2))
      · exact br_f (fun z => h2 ((lz_shr1 (by omega) s).mp z)) (br_t rfl (nm_r (nI_1 j) (nx fun z => h2 z.2.1)))
    · exact br_f (fun z => h1 ((lz_shr1 (by omega) s).mp z)) (br_t rfl (nm_r (nI_1 j) (nx fun z => h1 z.1)))
theorem lz_adYo {post : Int32 → Prop} {c f : Int32} {h kd dt : Nat → Int32} {s a : Int32} (hT : lz_AD s a → post 1) (hF : ¬ lz_AD s a → post 0) : ∀ d i, i + d = 4 → (∀ t, t < i → ∀ j, j < t → ¬ lz_cl2 s a t j) → wY_allDiffer_2 post s a c f h kd dt (d + 1) (nI i) := by
  intro d
  induction d with
  | zero =>
    intro i hi H
    have e : i = 4 := by omega
    subst e
    exact br_t lz_le4 (hT H)
  | succ d ih =>
    intro i hi H
    exact br_f (lz_n4 (by omega)) ⟨i + 1, lz_adYi (by omega) (fun j hj z => hF (fun A => A i (by omega) j hj z)) (fun z => ih (i + 1) (by omega) (lt_s H z)) i 0 (by omega) (fun t ht => absurd ht (by omega))⟩
theorem lz_adY {post : Int32 → Prop} {c f : Int32} {h kd dt : Nat → Int32} {s a : Int32} (hT : lz_AD s a → post 1) (hF : ¬ lz_AD s a → post 0) : wpY_allDiffer post (c, f, h, kd, dt) s a := ⟨4 + 1, lz_adYo hT hF 4 0 rfl (fun t ht => absurd ht (by omega))⟩
theorem lz_adXl {post : Int32 → Prop} {s a : Int32} (hT : lz_AD s a → post 1) (hF : ¬ lz_AD s a → post 0) : ∀ (d i : Nat) (x : Int32), i + d = 4 → (∀ w, w < 4 → (bt x w = true ↔ ∃ j, j < i ∧ bt s j = true ∧ lz_v a (nI j) = nI w)) → (∀ t, t < i → ∀ j, j < t → ¬ lz_cl2 s a t j) → wX_allDifferent_4 post s a (d + 1) x (nI i) := by
  intro d
  induction d with
  | zero =>
    intro i x hi _ H
    have e : i = 4 := by omega
    subst e
    exact br_t lz_le4 (hT H)
  | succ d ih =>
    intro i x hi S H
    refine br_f (lz_n4 (by omega)) ?_
    by_cases h1 : bt s i = true
    · refine br_f (lz_andn (by omega) s h1) (lz_vX ?_)
      obtain ⟨w, hw, ew⟩ := lz_vlt a (nI i)
      rw [ew]
      refine nm_e ?_
      by_cases h2 : bt x w = true
      · refine br_f (lz_andn (by omega) x h2) (hF fun A => ?_)
        obtain ⟨j, hj, hb, hv⟩ := (S w hw).mp h2
        exact A i (by omega) j hj ⟨h1, hb, ew.trans hv.symm⟩
      · refine br_t ((lz_and0 (by omega) x).mpr (Bool.eq_false_iff.mpr h2)) (nm_e (nm_r (nI_1 i) (ih (i + 1) _ (by omega) ?_ (lt_s H ?_))))
        · intro y hy
          rw [lz_on (by omega)]
          constructor
          · intro z
            rcases Bool.or_eq_true_iff.mp z with z | z
            · obtain ⟨j, hj, hb, hv⟩ := (S y hy).mp z
              exact ⟨j, by omega, hb, hv⟩
            · have e : y = w := of_decide_eq_true z
              exact ⟨i, by omega, h1, by rw [e]; exact ew⟩
          · rintro ⟨j, hj, hb, hv⟩
            rw [Bool.or_eq_true_iff]
            by_cases e : j = i
            · subst e
              right
              rw [ew] at hv
              exact decide_eq_true ((nI_eq (by omega) (by omega)).mp hv).symm
            · left
              exact (S y hy).mpr ⟨j, by omega, hb, hv⟩
        · intro j hj z
          exact h2 ((S w hw).mpr ⟨j, hj, z.2.1, z.2.2.symm.trans ew⟩)
    · refine br_t ((lz_and0 (by omega) s).mpr (Bool.eq_false_iff.mpr h1)) (nm_r (nI_1 i) (ih (i + 1) x (by omega) ?_ (lt_s H (fun j hj z => h1 z.1))))
      intro y hy
      rw [S y hy]
      constructor
      · rintro ⟨j, hj, r⟩
        exact ⟨j, by omega, r⟩
      · rintro ⟨j, hj, hb, hv⟩
        by_cases e : j = i
        · subst e
          exact absurd hb h1
        · exact ⟨j, by omega, hb, hv⟩
theorem lz_adX {post : Int32 → Prop} {s a : Int32} (hT : lz_AD s a → post 1) (hF : ¬ lz_AD s a → post 0) : wpX_allDifferent post s a := ⟨4 + 1, lz_adXl hT hF 4 0 0 rfl (fun w _ => ⟨fun z => absurd z (by rw [b_0]; decide), fun ⟨j, hj, _⟩ => absurd hj (by omega)⟩) (fun t ht => absurd ht (by omega))⟩
end
section
/-! one constraint on one assignment; the relation; a set of constraints on one assignment, on both sides -/
def lz_Sat (kd dt : Nat → Int32) (q : Nat) (a : Int32) : Prop :=
  if kd q = 1 then lz_AD (dt (q * 5)) a else if kd q = 2 then dt (q * 5 + 1) ≤ lz_v a (dt (q * 5)) ∨ lz_v a (dt (q * 5 + 2)) ≤ dt (q * 5 + 3) else lz_s (fun j => dt (q * 5 + j)) a 4 ≤ dt (q * 5 + 4)
theorem lz_Sat1 {kd dt : Nat → Int32} {q : Nat} {a : Int32} (h : kd q = 1) : lz_Sat kd dt q a ↔ lz_AD (dt (q * 5)) a := by
  unfold lz_Sat
  rw [if_pos h]
theorem lz_Sat2 {kd dt : Nat → Int32} {q : Nat} {a : Int32} (h : kd q = 2) : lz_Sat kd dt q a ↔ (dt (q * 5 + 1) ≤ lz_v a (dt (q * 5)) ∨ lz_v a (dt (q * 5 + 2)) ≤ dt (q * 5 + 3)) := by
  unfold lz_Sat
  rw [if_neg (by rw [h]; decide), if_pos h]
theorem lz_Sat0 {kd dt : Nat → Int32} {q : Nat} {a : Int32} (h1 : ¬ kd q = 1) (h2 : ¬ kd q = 2) : lz_Sat kd dt q a ↔ lz_s (fun j => dt (q * 5 + j)) a 4 ≤ dt (q * 5 + 4) := by
  unfold lz_Sat
  rw [if_neg h1, if_neg h2]
theorem lz_SatF {kd dt kd' dt' : Nat → Int32} {q : Nat} {a : Int32} (hk : kd' q = kd q) (hd : ∀ t, t < 5 → dt' (q * 5 + t) = dt (q * 5 + t)) : lz_Sat kd' dt' q a ↔ lz_Sat kd dt q a := by
  have e0 : dt' (q * 5) = dt (q * 5) := hd 0 (by omega)
  have es : lz_s (fun j => dt' (q * 5 + j)) a 4 = lz_s (fun j => dt (q * 5 + j)) a 4 := lz_sc 4 (fun i hi => hd i (by omega))
  unfold lz_Sat
  rw [hk, e0, es, hd 1 (by omega), hd 2 (by omega), hd 3 (by omega), hd 4 (by omega)]
theorem lz_satY {post : Int32 → Prop} {c f : Int32} {h kd dt : Nat → Int32} {q : Nat} (hq : q < 10) {a : Int32} (hT : lz_Sat kd dt q a → post 1) (hF : ¬ lz_Sat kd dt q a → post 0) : wpY_satisfies post (c, f, h, kd, dt) (nI q) a := by
  unfold wpY_satisfies
  dsimp only
  refine nm_r (e' := nI (q * 5)) (pk_mul q 5) ⟨vp_in_nI hq (by decide), ?_⟩
  have hi : vp_in (nI q) 10 := vp_in_nI hq (by decide)
  have h5 : vp_in (nI (q * 5)) 50 := vp_in_nI (by omega) (by decide)
  rw [lz_cl (show q < 1000 by omega)]
  by_cases h1 : kd q = 1
  · refine br_t h1 ⟨h5, ?_⟩
    rw [lz_cl (show q * 5 < 1000 by omega)]
    exact lz_adY (fun z => ⟨rfl, hT ((lz_Sat1 h1).mpr z)⟩) (fun z => ⟨rfl, hF (fun y => z ((lz_Sat1 h1).mp y))⟩)
  · refine br_f h1 ⟨hi, ?_⟩
    by_cases h2 : kd q = 2
    · refine br_t h2 ⟨h5, lz_vY ?_⟩
      rw [show nI (q * 5) + 1 = nI (q * 5 + 1) from nI_add _ 1, show nI (q * 5) + 2 = nI (q * 5 + 2) from nI_add _ 2, show nI (q * 5) + 3 = nI (q * 5 + 3) from nI_add _ 3, lz_cl (show q * 5 < 1000 by omega), lz_cl (show q * 5 + 1 < 1000 by omega), lz_cl (show q * 5 + 2 < 1000 by omega), lz_cl (show q * 5 + 3 < 1000 by omega)]
      refine ⟨vp_in_nI (by omega) (by decide), ?_⟩
      by_cases h3 : dt (q * 5 + 1) ≤ lz_v a (dt (q * 5))
      · exact br_t h3 (hT ((lz_Sat2 h2).mpr (Or.inl h3)))
      · refine br_f h3 ⟨vp_in_nI (by omega) (by decide), lz_vY ⟨vp_in_nI (by omega) (by decide), ?_⟩⟩
        by_cases h4 : dt (q * 5 + 3) < lz_v a (dt (q * 5 + 2))
        · refine br_t h4 (hF fun y => ?_)
          rcases (lz_Sat2 h2).mp y with y | y
          · exact h3 y
          · exact Int32.not_le.mpr h4 y
        · exact br_f h4 (hT ((lz_Sat2 h2).mpr (Or.inr (Int32.not_lt.mp h4))))
    · exact br_f h2 ⟨4 + 1, lz_sYl hq (fun z => hT ((lz_Sat0 h1 h2).mpr z)) (fun z => hF (fun y => z ((lz_Sat0 h1 h2).mp y))) 4 0 rfl⟩
theorem lz_allYl {post : Int32 → Prop} {c : Nat} {f : Int32} {h kd dt : Nat → Int32} (hc : c ≤ 10) {s a : Int32} (hT : (∀ q, q < c → bt s q = true → lz_Sat kd dt q a) → post 1) (hF : ¬ (∀ q, q < c → bt s q = true → lz_Sat kd dt q a) → post 0) : ∀ d i, i + d = c → (∀ q, q < i → bt s q = true → lz_Sat kd dt q a) → wY_satisfiesAll_2 post s a (nI c) f h kd dt (d + 1) (nI i) := by
  intro d
  induction d with
  | zero =>
    intro i hi H
    have e : i = c := by omega
    subst e
    exact br_t (nI_le (Nat.le_refl _) (by omega)) (hT H)
  | succ d ih =>
    intro i hi H
    refine br_f (nI_ge (by omega) (by omega)) ?_
    by_cases h1 : bt s i = true
    · refine br_t ((lz_shr1 (by omega) s).mpr h1) (lz_satY (by omega) (fun z => ?_) (fun z => ?_))
      · exact br_f (by decide) (nm_r (nI_1 i) (ih (i + 1) (by omega) (lt_s H (fun _ => z))))
      · exact br_t rfl (hF fun A => z (A i (by omega) h1))
    · exact br_f (fun z => h1 ((lz_shr1 (by omega) s).mp z)) (nm_r (nI_1 i) (ih (i + 1) (by omega) (lt_s H (fun z => absurd z h1))))
theorem lz_allY {post : Int32 → Prop} {c : Nat} {f : Int32} {h kd dt : Nat → Int32} (hc : c ≤ 10) {s a : Int32} (hT : (∀ q, q < c → bt s q = true → lz_Sat kd dt q a) → post 1) (hF : ¬ (∀ q, q < c → bt s q = true → lz_Sat kd dt q a) → post 0) : wpY_satisfiesAll post (nI c, f, h, kd, dt) s a := ⟨c + 1, lz_allYl hc hT hF c 0 (by omega) (fun t ht => absurd ht (by omega))⟩
/-- no bit at c or beyond -/
def lz_B (c : Nat) (s : Int32) : Prop := ∀ i, c ≤ i → bt s i = false
/-- the table of broken constraints says what the kept constraints say -/
def lz_T (c : Nat) (b kd dt : Nat → Int32) : Prop := c ≤ 10 ∧ ∀ q, q < c → ∀ j, j < 256 → (bt (b j) q = false ↔ lz_Sat kd dt q (nI j))
def i_Rel (_ : Nat) (u : SX) (v : SY) : Prop := ∃ (c : Nat) (f : Int32) (h b kd dt : Nat → Int32), u = (nI c, f, h, b) ∧ v = (nI c, f, h, kd, dt) ∧ lz_B c f ∧ lz_T c b kd dt
theorem lz_key {c : Nat} {b kd dt : Nat → Int32} (R : lz_T c b kd dt) {s : Int32} (hs : lz_B c s) {j : Nat} (hj : j < 256) : b j &&& s = 0 ↔ ∀ q, q < c → bt s q = true → lz_Sat kd dt q (nI j) := by
  rw [lz_z]
  constructor
  · intro h q hq z
    have h' := h q
    rw [b_and, z, Bool.and_true] at h'
    exact (R.2 q hq j hj).mp h'
  · intro h i
    rw [b_and]
    by_cases hi : i < c
    · cases hb : bt s i
      · rw [Bool.and_false]
      · rw [Bool.and_true]
        exact (R.2 i hi j hj).mpr (h i hi hb)
    · rw [hs i (by omega), Bool.and_false]
theorem lz_aX {post : Int32 → Prop} {c f : Int32} {h b : Nat → Int32} {s : Int32} {j : Nat} (hj : j < 256) (hT : b j &&& s = 0 → post 1) (hF : ¬ b j &&& s = 0 → post 0) : wpX_satisfiesAll post (c, f, h, b) s (nI j) := by
  unfold wpX_satisfiesAll
  dsimp only
  refine ⟨vp_in_nI hj (by decide), ?_⟩
  rw [lz_cl (show j < 1000 by omega)]
  exact ⟨hT, hF⟩
theorem lz_aY {post : Int32 → Prop} {c : Nat} {f : Int32} {h b kd dt : Nat → Int32} (R : lz_T c b kd dt) {s : Int32} (hs : lz_B c s) {j : Nat} (hj : j < 256) (hT : b j &&& s = 0 → post 1) (hF : ¬ b j &&& s = 0 → post 0) : wpY_satisfiesAll post (nI c, f, h, kd, dt) s (nI j) :=
  lz_allY R.1 (fun z => hT ((lz_key R hs hj).mpr z)) (fun z => hF (fun y => z ((lz_key R hs hj).mp y)))
end
section
/-! a new constraint: the table's new column, the reference's new record -/
theorem lz_admX {post : Int32 → SX → Prop} {c : Nat} {f : Int32} {h b : Nat → Int32} (H : post (nI c) (nI (c + 1), f ||| ((1 : Int32) <<< (nI c &&& 31)), h, b)) : wpX_admitNewConstraint post (nI c, f, h, b) := by
  unfold wpX_admitNewConstraint
  dsimp only
  exact nm_e (nm_r (nI_1 c) H)
theorem lz_makeY {post : Int32 → SY → Prop} {c : Nat} (hc : c < 10) {f : Int32} {h kd dt : Nat → Int32} {p : Int32} (H : post (nI c) (nI (c + 1), f ||| ((1 : Int32) <<< (nI c &&& 31)), h, upd kd c p, dt)) : wpY_make post (nI c, f, h, kd, dt) p := by
  unfold wpY_make
  dsimp only
  refine ⟨vp_in_nI hc (by decide), ?_⟩
  rw [lz_cl (show c < 1000 by omega)]
  refine nm_e (nm_e (nm_r (nI_1 c) ?_))
  rw [nI_pred]
  exact H
/-- the old columns stand, the new one is right below i -/
def lz_Inv (c : Nat) (b : Nat → Int32) (P : Nat → Prop) (i : Nat) (b' : Nat → Int32) : Prop := ∀ j, (∀ q, q < c → bt (b' j) q = bt (b j) q) ∧ (j < i → (bt (b' j) c = false ↔ P j))
theorem lz_Inv0 {c : Nat} {b : Nat → Int32} {P : Nat → Prop} : lz_Inv c b P 0 b := fun _ => ⟨fun _ _ => rfl, fun h => absurd h (by omega)⟩
theorem lz_recX {post : SX → Prop} {c : Nat} (hc : c < 10) {f : Int32} {h b b' : Nat → Int32} {P : Nat → Prop} {j : Nat} (hj : j < 256) {z : Int32} (hz : z = 0 ∧ ¬ P j ∨ z = 1 ∧ P j) (I : lz_Inv c b P j b') (H : ∀ b'', lz_Inv c b P (j + 1) b'' → post (nI c, f, h, b'')) : wpX_recordForNewConstraint post (nI c, f, h, b') (nI j) z := by
  unfold wpX_recordForNewConstraint
  dsimp only
  have hi : vp_in (nI j) 256 := vp_in_nI hj (by decide)
  rw [lz_cl (show j < 1000 by omega)]
  refine nm_e ?_
  rcases hz with ⟨rfl, hp⟩ | ⟨rfl, hp⟩
  · refine br_t rfl ⟨hi, hi, nm_e (H _ ?_)⟩
    intro t
    by_cases e : t = j
    · subst e
      rw [pk_us]
      refine ⟨fun q hq => ?_, fun _ => ?_⟩
      · rw [lz_on (by omega), decide_eq_false (by omega), Bool.or_false]
        exact (I t).1 q hq
      · rw [lz_on (by omega), decide_eq_true rfl, Bool.or_true]
        exact ⟨fun n => absurd n (by decide), fun n => absurd n hp⟩
    · rw [pk_un e]
      exact ⟨(I t).1, fun ht => (I t).2 (by omega)⟩
  · refine br_f (by decide) ⟨hi, hi, nm_e (H _ ?_)⟩
    intro t
    by_cases e : t = j
    · subst e
      rw [pk_us]
      refine ⟨fun q hq => ?_, fun _ => ?_⟩
      · rw [lz_off (by omega), decide_eq_false (by omega), Bool.not_false, Bool.and_true]
        exact (I t).1 q hq
      · rw [lz_off (by omega), decide_eq_true rfl, Bool.not_true, Bool.and_false]
        exact ⟨fun _ => hp, fun _ => rfl⟩
    · rw [pk_un e]
      exact ⟨(I t).1, fun ht => (I t).2 (by omega)⟩
theorem lz_linX {post : Int32 → SX → Prop} {c : Nat} (hc : c < 10) {f : Int32} {h b : Nat → Int32} {x : Int32} (H : ∀ b'', lz_Inv c b (fun j => lz_s h (nI j) 4 ≤ x) 256 b'' → post (nI c) (nI (c + 1), f ||| ((1 : Int32) <<< (nI c &&& 31)), h, b'')) : ∀ (d j : Nat) (b' : Nat → Int32), j + d = 256 → lz_Inv c b (fun j => lz_s h (nI j) 4 ≤ x) j b' → wX_linear_28 post x (d + 1) (nI j) (nI c) f h b' := by
  intro d
  induction d with
  | zero =>
    intro j b' hj I
    have e : j = 256 := by omega
    subst e
    exact br_t lz_le256 (lz_admX (H b' I))
  | succ d ih =>
    intro j b' hj I
    refine br_f (lz_n256 (by omega)) (lz_sX ?_)
    by_cases z : x < lz_s h (nI j) 4
    · refine br_t z ?_
      unfold wX_linear_49
      exact lz_recX hc (by omega) (Or.inl ⟨rfl, Int32.not_le.mpr z⟩) I (fun b'' I' => nm_r (nI_1 j) (ih (j + 1) b'' (by omega) I'))
    · refine br_f z ?_
      unfold wX_linear_49
      exact lz_recX hc (by omega) (Or.inr ⟨rfl, Int32.not_lt.mp z⟩) I (fun b'' I' => nm_r (nI_1 j) (ih (j + 1) b'' (by omega) I'))
theorem lz_difX {post : Int32 → SX → Prop} {c : Nat} (hc : c < 10) {f : Int32} {h b : Nat → Int32} {x : Int32} (H : ∀ b'', lz_Inv c b (fun j => lz_AD x (nI j)) 256 b'' → post (nI c) (nI (c + 1), f ||| ((1 : Int32) <<< (nI c &&& 31)), h, b'')) : ∀ (d j : Nat) (b' : Nat → Int32), j + d = 256 → lz_Inv c b (fun j => lz_AD x (nI j)) j b' → wX_differ_26 post x (d + 1) (nI j) (nI c) f h b' := by
  intro d
  induction d with
  | zero =>
    intro j b' hj I
    have e : j = 256 := by omega
    subst e
    exact br_t lz_le256 (lz_admX (H b' I))
  | succ d ih =>
    intro j b' hj I
    refine br_f (lz_n256 (by omega)) (lz_adX (fun z => ?_) (fun z => ?_))
    · exact lz_recX hc (by omega) (Or.inr ⟨rfl, z⟩) I (fun b'' I' => nm_r (nI_1 j) (ih (j + 1) b'' (by omega) I'))
    · exact lz_recX hc (by omega) (Or.inl ⟨rfl, z⟩) I (fun b'' I' => nm_r (nI_1 j) (ih (j + 1) b'' (by omega) I'))
theorem lz_eitX {post : Int32 → SX → Prop} {c : Nat} (hc : c < 10) {f : Int32} {h b : Nat → Int32} {p0 p1 p2 p3 : Int32} (H : ∀ b'', lz_Inv c b (fun j => p1 ≤ lz_v (nI j) p0 ∨ lz_v (nI j) p2 ≤ p3) 256 b'' → post (nI c) (nI (c + 1), f ||| ((1 : Int32) <<< (nI c &&& 31)), h, b'')) : ∀ (d j : Nat) (b' : Nat → Int32), j + d = 256 → lz_Inv c b (fun j => p1 ≤ lz_v (nI j) p0 ∨ lz_v (nI j) p2 ≤ p3) j b' → wX_either_46 post p0 p1 p2 p3 (d + 1) (nI j) (nI c) f h b' := by
  intro d
  induction d with
  | zero =>
    intro j b' hj I
    have e : j = 256 := by omega
    subst e
    exact br_t lz_le256 (lz_admX (H b' I))
  | succ d ih =>
    intro j b' hj I
    refine br_f (lz_n256 (by omega)) (lz_vX ?_)
    by_cases z : p1 ≤ lz_v (nI j) p0
    · refine br_t z ?_
      unfold wX_either_75 wX_either_80
      exact lz_recX hc (by omega) (Or.inr ⟨rfl, Or.inl z⟩) I (fun b'' I' => nm_r (nI_1 j) (ih (j + 1) b'' (by omega) I'))
    · refine br_f z (lz_vX ?_)
      by_cases y : p3 < lz_v (nI j) p2
      · refine br_t y ?_
        unfold wX_either_80
        exact lz_recX hc (by omega) (Or.inl ⟨rfl, fun n => n.elim z (Int32.not_le.mpr y)⟩) I (fun b'' I' => nm_r (nI_1 j) (ih (j + 1) b'' (by omega) I'))
      · refine br_f y ?_
        unfold wX_either_75 wX_either_80
        exact lz_recX hc (by omega) (Or.inr ⟨rfl, Or.inr (Int32.not_lt.mp y)⟩) I (fun b'' I' => nm_r (nI_1 j) (ih (j + 1) b'' (by omega) I'))
theorem lz_5a {c : Nat} : nI c * 5 = nI (c * 5) := pk_mul c 5
theorem lz_linY {post : Int32 → SY → Prop} {c : Nat} (hc : c < 10) {f : Int32} {h kd dt : Nat → Int32} {x : Int32} (H : ∀ dt'', (∀ t, t < c * 5 → dt'' t = dt t) → (∀ t, t < 4 → dt'' (c * 5 + t) = h t) → dt'' (c * 5 + 4) = x → post (nI c) (nI (c + 1), f ||| ((1 : Int32) <<< (nI c &&& 31)), h, upd kd c 0, dt'')) : ∀ (d i : Nat) (dt' : Nat → Int32), i + d = 4 → (∀ t, t < c * 5 → dt' t = dt t) → (∀ t, t < i → dt' (c * 5 + t) = h t) → wY_linear_28 post x (nI c) f (d + 1) (nI i) h kd dt' := by
  intro d
  induction d with
  | zero =>
    intro i dt' hi I1 I2
    have e : i = 4 := by omega
    subst e
    refine br_t lz_le4 ?_
    rw [lz_5a, show nI (c * 5) + 4 = nI (c * 5 + 4) from nI_add _ 4, lz_cl (show c * 5 + 4 < 1000 by omega)]
    refine ⟨vp_in_nI (by omega) (by decide), nm_e (lz_makeY hc (H _ (fun t ht => ?_) (fun t ht => ?_) pk_us))⟩
    · rw [pk_un (by omega)]
      exact I1 t ht
    · rw [pk_un (by omega)]
      exact I2 t ht
  | succ d ih =>
    intro i dt' hi I1 I2
    refine br_f (lz_n4 (by omega)) ?_
    rw [lz_5a, nI_add (c * 5) i, lz_cl (show c * 5 + i < 1000 by omega), lz_cl (show i < 1000 by omega)]
    refine ⟨vp_in_nI (by omega) (by decide), vp_in_nI (by omega) (by decide), nm_e (nm_r (nI_1 i) (ih (i + 1) _ (by omega) (fun t ht => ?_) (lt_s (fun t ht => ?_) pk_us)))⟩
    · rw [pk_un (by omega)]
      exact I1 t ht
    · rw [pk_un (by omega)]
      exact I2 t ht
theorem lz_Bg {c : Nat} (hc : c < 10) {f : Int32} (h : lz_B c f) : lz_B (c + 1) (f ||| ((1 : Int32) <<< (nI c &&& 31))) := by
  intro i hi
  rw [lz_on (by omega), h i (by omega), decide_eq_false (by omega), Bool.or_false]
theorem lz_grow {c : Nat} {b kd dt : Nat → Int32} (R : lz_T c b kd dt) (hc : c < 10) {P : Nat → Prop} {b' dt' : Nat → Int32} (I : lz_Inv c b P 256 b') (hd : ∀ t, t < c * 5 → dt' t = dt t) {p : Int32} (hP : ∀ j, j < 256 → (P j ↔ lz_Sat (upd kd c p) dt' c (nI j))) : lz_T (c + 1) b' (upd kd c p) dt' := by
  refine ⟨by omega, fun q hq j hj => ?_⟩
  by_cases e : q = c
  · subst e
    exact ((I j).2 hj).trans (hP j hj)
  · rw [(I j).1 q (by omega)]
    exact (R.2 q (by omega) j hj).trans (lz_SatF (pk_un e) (fun t ht => hd _ (by omega))).symm
end
section
/-! the questions: both sides walk the 256 assignments in step, with one answer r -/
theorem lz_first {c : Nat} {f : Int32} {h b kd dt : Nat → Int32} (R : lz_T c b kd dt) {s : Int32} (hs : lz_B c s) : ∀ d j : Nat, j + d = 256 → ∃ r : Int32, (∀ post : Int32 → Prop, post r → wX_firstSatisfying_2 post s (nI c) f h b (d + 1) (nI j)) ∧ (∀ post : Int32 → Prop, post r → wY_firstOf_2 post s (nI c) f h kd dt (d + 1) (nI j)) := by
  intro d
  induction d with
  | zero =>
    intro j hj
    have e : j = 256 := by omega
    subst e
    exact ⟨-4, fun _ H => br_t lz_le256 H, fun _ H => br_t lz_le256 H⟩
  | succ d ih =>
    intro j hj
    have hn : ¬ (256 : Int32) ≤ nI j := lz_n256 (by omega)
    by_cases z : b j &&& s = 0
    · exact ⟨nI j, fun _ H => br_f hn (lz_aX (by omega) (fun _ => br_f (by decide) H) (fun n => absurd z n)), fun _ H => br_f hn (lz_aY R hs (by omega) (fun _ => br_f (by decide) H) (fun n => absurd z n))⟩
    · obtain ⟨r, hX, hY⟩ := ih (j + 1) (by omega)
      exact ⟨r, fun post H => br_f hn (lz_aX (by omega) (fun n => absurd n z) (fun _ => br_t rfl (nm_r (nI_1 j) (hX post H)))), fun post H => br_f hn (lz_aY R hs (by omega) (fun n => absurd n z) (fun _ => br_t rfl (nm_r (nI_1 j) (hY post H))))⟩
theorem lz_firstW {c : Nat} (f : Int32) (h : Nat → Int32) {b kd dt : Nat → Int32} (R : lz_T c b kd dt) {s : Int32} (hs : lz_B c s) {j : Nat} (hj : j ≤ 256) : ∃ r : Int32, (∀ post : Int32 → Prop, post r → wpX_firstSatisfying post (nI c, f, h, b) s (nI j)) ∧ (∀ post : Int32 → Prop, post r → wpY_firstOf post (nI c, f, h, kd, dt) s (nI j)) := by
  obtain ⟨r, hX, hY⟩ := lz_first (f := f) (h := h) R hs (256 - j) j (by omega)
  exact ⟨r, fun post H => ⟨_, hX post H⟩, fun post H => ⟨_, hY post H⟩⟩
theorem lz_first0 {c : Nat} (f : Int32) (h : Nat → Int32) {b kd dt : Nat → Int32} (R : lz_T c b kd dt) {s : Int32} (hs : lz_B c s) : ∃ r : Int32, (∀ post : Int32 → Prop, post r → wpX_firstSatisfying post (nI c, f, h, b) s 0) ∧ (∀ post : Int32 → Prop, post r → wpY_firstOf post (nI c, f, h, kd, dt) s 0) := by
  have H := lz_firstW f h R hs (j := 0) (by omega)
  rw [nI_0] at H
  exact H
/-- X asks whether a set can be satisfied, Y looks for its first solution -/
theorem lz_can {c : Nat} (f : Int32) (h : Nat → Int32) {b kd dt : Nat → Int32} (R : lz_T c b kd dt) {s : Int32} (hs : lz_B c s) : ((∀ post : Int32 → Prop, post 0 → wpX_canSatisfy post (nI c, f, h, b) s) ∧ (∀ post : Int32 → Prop, post (-4) → wpY_firstOf post (nI c, f, h, kd, dt) s 0)) ∨ ((∀ post : Int32 → Prop, post 1 → wpX_canSatisfy post (nI c, f, h, b) s) ∧ ∃ r : Int32, ¬ r = -4 ∧ ∀ post : Int32 → Prop, post r → wpY_firstOf post (nI c, f, h, kd, dt) s 0) := by
  obtain ⟨r, hX, hY⟩ := lz_first0 f h R hs
  by_cases z : r = -4
  · left
    refine ⟨fun post H => ?_, fun post H => hY post (by rw [z]; exact H)⟩
    unfold wpX_canSatisfy
    dsimp only
    exact hX _ (br_t z H)
  · right
    refine ⟨fun post H => ?_, r, z, hY⟩
    unfold wpX_canSatisfy
    dsimp only
    exact hX _ (br_f z H)
theorem lz_with {c : Nat} {f : Int32} {h b kd dt : Nat → Int32} (R : lz_T c b kd dt) (hs : lz_B c f) {i x : Int32} : ∀ d j : Nat, j + d = 256 → ∃ r : Int32, (∀ post : Int32 → Prop, post r → wX_firstWith_18 post i x (nI c) f h b (d + 1) (nI j)) ∧ (∀ post : Int32 → Prop, post r → wY_firstWith_22 post i x (nI c) f h kd dt (d + 1) (nI j)) := by
  intro d
  induction d with
  | zero =>
    intro j hj
    have e : j = 256 := by omega
    subst e
    exact ⟨-4, fun _ H => br_t lz_le256 H, fun _ H => br_t lz_le256 H⟩
  | succ d ih =>
    intro j hj
    have hn : ¬ (256 : Int32) ≤ nI j := lz_n256 (by omega)
    by_cases y : lz_v (nI j) i = x
    · by_cases z : b j &&& f = 0
      · exact ⟨nI j, fun _ H => br_f hn (lz_vX (br_t y (lz_aX (by omega) (fun _ => br_f (by decide) H) (fun n => absurd z n)))), fun _ H => br_f hn (lz_vY (br_t y (lz_aY R hs (by omega) (fun _ => br_f (by decide) H) (fun n => absurd z n))))⟩
      · obtain ⟨r, hX, hY⟩ := ih (j + 1) (by omega)
        exact ⟨r, fun post H => br_f hn (lz_vX (br_t y (lz_aX (by omega) (fun n => absurd n z) (fun _ => br_t rfl (nm_r (nI_1 j) (hX post H)))))), fun post H => br_f hn (lz_vY (br_t y (lz_aY R hs (by omega) (fun n => absurd n z) (fun _ => br_t rfl (nm_r (nI_1 j) (hY post H))))))⟩
    · obtain ⟨r, hX, hY⟩ := ih (j + 1) (by omega)
      exact ⟨r, fun post H => br_f hn (lz_vX (br_f y (nm_r (nI_1 j) (hX post H)))), fun post H => br_f hn (lz_vY (br_f y (nm_r (nI_1 j) (hY post H))))⟩
theorem lz_vals {c : Nat} {f : Int32} {h b kd dt : Nat → Int32} (R : lz_T c b kd dt) (hs : lz_B c f) {i : Int32} : ∀ (d j : Nat) (x : Int32), j + d = 256 → ∃ r : Int32, (∀ post : Int32 → Prop, post r → wX_values_13 post i (nI c) f h b (d + 1) x (nI j)) ∧ (∀ post : Int32 → Prop, post r → wY_values_15 post i (nI c) f h kd dt (d + 1) x (nI j)) := by
  intro d
  induction d with
  | zero =>
    intro j x hj
    have e : j = 256 := by omega
    subst e
    exact ⟨x, fun _ H => br_t lz_le256 H, fun _ H => br_t lz_le256 H⟩
  | succ d ih =>
    intro j x hj
    have hn : ¬ (256 : Int32) ≤ nI j := lz_n256 (by omega)
    by_cases z : b j &&& f = 0
    · obtain ⟨r, hX, hY⟩ := ih (j + 1) (x ||| ((1 : Int32) <<< (lz_v (nI j) i &&& 31))) (by omega)
      exact ⟨r, fun post H => br_f hn (lz_aX (by omega) (fun _ => br_f (by decide) (lz_vX (nm_e (nm_r (nI_1 j) (hX post H))))) (fun n => absurd z n)), fun post H => br_f hn (lz_aY R hs (by omega) (fun _ => br_f (by decide) (lz_vY (nm_e (nm_r (nI_1 j) (hY post H))))) (fun n => absurd z n))⟩
    · obtain ⟨r, hX, hY⟩ := ih (j + 1) x (by omega)
      exact ⟨r, fun post H => br_f hn (lz_aX (by omega) (fun n => absurd n z) (fun _ => br_t rfl (nm_r (nI_1 j) (hX post H)))), fun post H => br_f hn (lz_aY R hs (by omega) (fun n => absurd n z) (fun _ => br_t rfl (nm_r (nI_1 j) (hY post H))))⟩
/-- Y's sum, then its test of the assignment -/
theorem lz_smY {post : Int32 → Prop} {J6 : Int32 → Int32 → Prop} {c : Nat} {f : Int32} {h b kd dt : Nat → Int32} (R : lz_T c b kd dt) (hs : lz_B c f) {x : Int32} {j : Nat} (hj : j < 256) (hT : ¬ x ≤ lz_s h (nI j) 4 → b j &&& f = 0 → J6 (lz_s h (nI j) 4) (nI (j + 1))) (hF : x ≤ lz_s h (nI j) 4 ∨ ¬ b j &&& f = 0 → J6 x (nI (j + 1))) : ∀ d i : Nat, i + d = 4 → wY_smallest_18 post J6 x (nI j) (nI c) f h kd dt (d + 1) (lz_s h (nI j) i) (nI i) := by
  intro d
  induction d with
  | zero =>
    intro i hi
    have e : i = 4 := by omega
    subst e
    refine br_t lz_le4 ?_
    by_cases z : x ≤ lz_s h (nI j) 4
    · exact br_t z (nm_r (nI_1 j) (hF (Or.inl z)))
    · exact br_f z (lz_aY R hs hj (fun y => br_f (by decide) (nm_r (nI_1 j) (hT z y))) (fun y => br_t rfl (nm_r (nI_1 j) (hF (Or.inr y)))))
  | succ d ih =>
    intro i hi
    refine br_f (lz_n4 (by omega)) ⟨vp_in_nI (by omega) (by decide), lz_vY (nm_r (e' := lz_s h (nI j) (i + 1)) ?_ (nm_r (nI_1 i) (ih (i + 1) (by omega))))⟩
    rw [lz_cl (show i < 1000 by omega)]
    rfl
theorem lz_small {c : Nat} {f : Int32} {h b kd dt : Nat → Int32} (R : lz_T c b kd dt) (hs : lz_B c f) : ∀ (d j : Nat) (x : Int32), j + d = 256 → ∃ r : Int32, (∀ post : Int32 → Prop, post r → wX_smallest_6 post (nI c) f h b (d + 1) x (nI j)) ∧ (∀ post : Int32 → Prop, post r → wY_smallest_6 post (nI c) f h kd dt (d + 1) x (nI j)) := by
  intro d
  induction d with
  | zero =>
    intro j x hj
    have e : j = 256 := by omega
    subst e
    exact ⟨x, fun _ H => br_t lz_le256 H, fun _ H => br_t lz_le256 H⟩
  | succ d ih =>
    intro j x hj
    have hn : ¬ (256 : Int32) ≤ nI j := lz_n256 (by omega)
    by_cases z : b j &&& f = 0
    · by_cases y : x ≤ lz_s h (nI j) 4
      · obtain ⟨r, hX, hY⟩ := ih (j + 1) x (by omega)
        exact ⟨r, fun post H => br_f hn (lz_aX (by omega) (fun _ => br_f (by decide) (lz_sX (br_t y (nm_r (nI_1 j) (hX post H))))) (fun n => absurd z n)), fun post H => br_f hn ⟨4 + 1, lz_smY R hs (by omega) (fun n => absurd y n) (fun _ => hY post H) 4 0 rfl⟩⟩
      · obtain ⟨r, hX, hY⟩ := ih (j + 1) (lz_s h (nI j) 4) (by omega)
        exact ⟨r, fun post H => br_f hn (lz_aX (by omega) (fun _ => br_f (by decide) (lz_sX (br_f y (nm_r (nI_1 j) (hX post H))))) (fun n => absurd z n)), fun post H => br_f hn ⟨4 + 1, lz_smY R hs (by omega) (fun _ _ => hY post H) (fun n => n.elim (fun n => absurd n y) (fun n => absurd z n)) 4 0 rfl⟩⟩
    · obtain ⟨r, hX, hY⟩ := ih (j + 1) x (by omega)
      exact ⟨r, fun post H => br_f hn (lz_aX (by omega) (fun n => absurd n z) (fun _ => br_t rfl (nm_r (nI_1 j) (hX post H)))), fun post H => br_f hn ⟨4 + 1, lz_smY R hs (by omega) (fun _ n => absurd n z) (fun _ => hY post H) 4 0 rfl⟩⟩
theorem lz_Bo {c q : Nat} (hq : q < 32) {s : Int32} (h : lz_B c s) : lz_B c (s &&& (((1 : Int32) <<< (nI q &&& 31)) ^^^ (-1))) := by
  intro i hi
  rw [lz_off hq, h i hi, Bool.false_and]
theorem lz_blame {c : Nat} {f : Int32} {h b kd dt : Nat → Int32} (R : lz_T c b kd dt) : ∀ (d i : Nat) (x : Int32), i + d = c → lz_B c x → ∃ r : Int32, (∀ post : Int32 → Prop, post r → wX_blame_20 post (nI c) f h b (d + 1) x (nI i)) ∧ (∀ post : Int32 → Prop, post r → wY_blame_20 post (nI c) f h kd dt (d + 1) x (nI i)) := by
  have hc := R.1
  intro d
  induction d with
  | zero =>
    intro i x hi _
    have e : nI c ≤ nI i := nI_le (by omega) (by omega)
    exact ⟨x, fun _ H => br_t e H, fun _ H => br_t e H⟩
  | succ d ih =>
    intro i x hi hx
    have hn : ¬ nI c ≤ nI i := nI_ge (by omega) (by omega)
    have hw : lz_B c (x &&& (((1 : Int32) <<< (nI i &&& 31)) ^^^ (-1))) := lz_Bo (by omega) hx
    rcases lz_can f h R hw with ⟨cX, cY⟩ | ⟨cX, t, ht, cY⟩
    · obtain ⟨r, hX, hY⟩ := ih (i + 1) _ (by omega) hw
      exact ⟨r, fun post H => br_f hn (nm_e (cX _ (br_t rfl (nm_r (nI_1 i) (hX post H))))), fun post H => br_f hn (nm_e (cY _ (br_t rfl (nm_r (nI_1 i) (hY post H)))))⟩
    · obtain ⟨r, hX, hY⟩ := ih (i + 1) x (by omega) hx
      exact ⟨r, fun post H => br_f hn (nm_e (cX _ (br_f (by decide) (nm_r (nI_1 i) (hX post H))))), fun post H => br_f hn (nm_e (cY _ (br_f ht (nm_r (nI_1 i) (hY post H)))))⟩
theorem lz_follow {c : Nat} {f : Int32} {h b kd dt : Nat → Int32} (R : lz_T c b kd dt) {s : Int32} (hs : lz_B c s) {q : Nat} (hq : q < c) : ∀ d j : Nat, j + d = 256 → ∃ r : Int32, (∀ post : Int32 → Prop, post r → wX_follows_26 post ((1 : Int32) <<< (nI q &&& 31)) s (nI c) f h b (d + 1) (nI j)) ∧ (∀ post : Int32 → Prop, post r → wY_follows_27 post (nI q) s (nI c) f h kd dt (d + 1) (nI j)) := by
  have hc := R.1
  intro d
  induction d with
  | zero =>
    intro j hj
    have e : j = 256 := by omega
    subst e
    exact ⟨1, fun _ H => br_t lz_le256 H, fun _ H => br_t lz_le256 H⟩
  | succ d ih =>
    intro j hj
    have hn : ¬ (256 : Int32) ≤ nI j := lz_n256 (by omega)
    obtain ⟨r, hX, hY⟩ := ih (j + 1) (by omega)
    by_cases z : b j &&& s = 0
    · have k : b j &&& ((1 : Int32) <<< (nI q &&& 31)) = 0 ↔ lz_Sat kd dt q (nI j) := (lz_and0 (by omega) _).trans (R.2 q hq j (by omega))
      by_cases y : lz_Sat kd dt q (nI j)
      · exact ⟨r, fun post H => br_f hn (lz_aX (by omega) (fun _ => br_f (by decide) (lz_aX (by omega) (fun _ => br_f (by decide) (nm_r (nI_1 j) (hX post H))) (fun n => absurd (k.mpr y) n))) (fun n => absurd z n)), fun post H => br_f hn (lz_aY R hs (by omega) (fun _ => br_f (by decide) (lz_satY (by omega) (fun _ => br_f (by decide) (nm_r (nI_1 j) (hY post H))) (fun n => absurd y n))) (fun n => absurd z n))⟩
      · exact ⟨0, fun post H => br_f hn (lz_aX (by omega) (fun _ => br_f (by decide) (lz_aX (by omega) (fun n => absurd (k.mp n) y) (fun _ => br_t rfl H))) (fun n => absurd z n)), fun post H => br_f hn (lz_aY R hs (by omega) (fun _ => br_f (by decide) (lz_satY (by omega) (fun n => absurd n y) (fun _ => br_t rfl H))) (fun n => absurd z n))⟩
    · exact ⟨r, fun post H => br_f hn (lz_aX (by omega) (fun n => absurd n z) (fun _ => br_t rfl (nm_r (nI_1 j) (hX post H)))), fun post H => br_f hn (lz_aY R hs (by omega) (fun n => absurd n z) (fun _ => br_t rfl (nm_r (nI_1 j) (hY post H))))⟩
end
section
/-! the owed statements -/
theorem lz_34 (x : Int32) : 3 < x ↔ 4 ≤ x := by
  have h3 : (3 : Int32).toInt = 3 := by decide
  have h4 : (4 : Int32).toInt = 4 := by decide
  rw [Int32.lt_iff_toInt_lt, Int32.le_iff_toInt_le, h3, h4]
  omega
def lz_Ok (x : Int32) : Prop := ¬ x < 0 ∧ ¬ 3 < x
theorem lz_okN {x : Int32} (h : lz_Ok x) : ∃ j : Nat, j < 4 ∧ x = nI j := by
  rcases pk_ix x (n := 4) (by omega) with z | z | z
  · exact absurd z h.1
  · exact absurd ((lz_34 x).mpr z) h.2
  · exact z
theorem lz_isF {post : Int32 → Prop} {x : Int32} (h : ¬ lz_Ok x) (H : post 0) : wpX_isVariable post x := by
  by_cases z : x < 0
  · exact br_t z H
  · by_cases y : 3 < x
    · exact br_f z (br_t ((lz_34 x).mp y) H)
    · exact absurd ⟨z, y⟩ h
theorem lz_isT {post : Int32 → Prop} {x : Int32} (h : lz_Ok x) (H : post 1) : wpX_isVariable post x := br_f h.1 (br_f (fun z => h.2 ((lz_34 x).mpr z)) H)
theorem lz_ivF {post : Int32 → Prop} {x : Int32} (h : ¬ lz_Ok x) (H : post 0) : wpX_isValue post x := by
  by_cases z : x < 0
  · exact br_t z H
  · by_cases y : 3 < x
    · exact br_f z (br_t ((lz_34 x).mp y) H)
    · exact absurd ⟨z, y⟩ h
theorem lz_ivT {post : Int32 → Prop} {x : Int32} (h : lz_Ok x) (H : post 1) : wpX_isValue post x := br_f h.1 (br_f (fun z => h.2 ((lz_34 x).mpr z)) H)
theorem lz_yb {x : Int32} {A B : Prop} (h : ¬ lz_Ok x) (a : A) : (x < 0 → A) ∧ (¬ x < 0 → ((3 < x → A) ∧ (¬ 3 < x → B))) := ⟨fun _ => a, fun z => ⟨fun _ => a, fun y => absurd ⟨z, y⟩ h⟩⟩
theorem lz_yg {x : Int32} {A B : Prop} (h : lz_Ok x) (b : B) : (x < 0 → A) ∧ (¬ x < 0 → ((3 < x → A) ∧ (¬ 3 < x → B))) := br_f h.1 (br_f h.2 b)
theorem lz_zb {x : Int32} {A B : Prop} (h : ¬ lz_Ok x) (a : A) : (x < 0 → A) ∧ (¬ x < 0 → ((x ≤ 3 → B) ∧ (¬ x ≤ 3 → A))) := ⟨fun _ => a, fun z => ⟨fun y => absurd ⟨z, Int32.not_lt.mpr y⟩ h, fun _ => a⟩⟩
theorem lz_zg {x : Int32} {A B : Prop} (h : lz_Ok x) (b : B) : (x < 0 → A) ∧ (¬ x < 0 → ((x ≤ 3 → B) ∧ (¬ x ≤ 3 → A))) := br_f h.1 (br_t (Int32.not_lt.mp h.2) b)
theorem i_up {k : Nat} {u : SX} {v : SY} (h : i_Rel k u v) : i_Rel (k + 5) u v := h
theorem i_vc0 : wpX_init (fun u => wpY_init (fun v => i_Rel 0 u v)) := ⟨0, 0, fun _ => 0, fun _ => 0, fun _ => 0, fun _ => 0, rfl, rfl, fun i _ => b_0 i, by omega, fun q hq => absurd hq (by omega)⟩
theorem i_vc_factor {k : Nat} {u : SX} {v : SY} (I : i_Rel k u v) (hk : k + 5 ≤ 2560) (v1 : Int32) (v2 : Int32) : wpX_factor (fun r u' => wpY_factor (fun r' v' => r' = r ∧ i_Rel (k + 5) u' v') v v1 v2) u v1 v2 := by
  have J : i_Rel (k + 5) u v := I
  obtain ⟨c, f, h, b, kd, dt, rfl, rfl, B, R⟩ := I
  unfold wpX_factor wpY_factor
  dsimp only
  by_cases h1 : lz_Ok v1
  · have hi : vp_in v1 4 := by
      obtain ⟨j, hj, rfl⟩ := lz_okN h1
      exact vp_in_nI hj (by decide)
    refine lz_isT h1 (br_f (by decide) ?_)
    by_cases h2 : v2 < -5
    · exact br_t h2 (lz_yg h1 (br_t h2 ⟨rfl, J⟩))
    · by_cases h3 : v2 ≤ 5
      · exact br_f h2 (br_t h3 ⟨hi, nm_e ⟨hi, nm_e (lz_yg h1 (br_f h2 (br_t h3 ⟨hi, nm_e ⟨hi, nm_e ⟨rfl, c, f, upd h v1.toNatClampNeg v2, b, kd, dt, rfl, rfl, B, R⟩⟩⟩)))⟩⟩)
      · exact br_f h2 (br_f h3 (lz_yg h1 (br_f h2 (br_f h3 ⟨rfl, J⟩))))
  · exact lz_isF h1 (br_t rfl (lz_yb h1 ⟨rfl, J⟩))
theorem lz_c10 {c : Nat} (h : c < 10) : nI c < 10 ∧ ¬ nI c = 10 := ⟨nI_lt (b := 10) h (by decide), fun z => absurd ((nI_eq (a := c) (b := 10) (by omega) (by omega)).mp z) (by omega)⟩
theorem lz_c10' {c : Nat} (h : ¬ c < 10) (h' : c ≤ 10) : ¬ nI c < 10 ∧ nI c = 10 := by
  have e : c = 10 := by omega
  subst e
  exact ⟨nI_nlt (a := 10) (b := 10) (by omega) (by decide), rfl⟩
theorem i_vc_linear {k : Nat} {u : SX} {v : SY} (I : i_Rel k u v) (hk : k + 5 ≤ 2560) (v1 : Int32) : wpX_linear (fun r u' => wpY_linear (fun r' v' => r' = r ∧ i_Rel (k + 5) u' v') v v1) u v1 := by
  have J : i_Rel (k + 5) u v := I
  obtain ⟨c, f, h, b, kd, dt, rfl, rfl, B, R⟩ := I
  unfold wpX_linear wpY_linear
  dsimp only
  by_cases h1 : v1 < -60
  · exact br_t h1 (br_t h1 ⟨rfl, J⟩)
  refine br_f h1 ?_
  by_cases h2 : v1 ≤ 60
  · refine br_t h2 ?_
    by_cases hc : c < 10
    · refine br_t (lz_c10 hc).1 ⟨256 + 1, lz_linX hc (fun b' I' => ?_) 256 0 b rfl lz_Inv0⟩
      refine br_f h1 (br_t h2 (br_f (lz_c10 hc).2 ⟨4 + 1, lz_linY hc (fun dt' g1 g2 g3 => ⟨rfl, c + 1, _, h, b', upd kd c 0, dt', rfl, rfl, lz_Bg hc B, lz_grow R hc I' g1 (fun j hj => ?_)⟩) 4 0 dt rfl (fun _ _ => rfl) (fun t ht => absurd ht (by omega))⟩))
      rw [lz_Sat0 (by rw [pk_us]; decide) (by rw [pk_us]; decide), g3, lz_sc (h := h) 4 g2]
    · exact br_f (lz_c10' hc R.1).1 (br_f h1 (br_t h2 (br_t (lz_c10' hc R.1).2 ⟨rfl, J⟩)))
  · exact br_f h2 (br_f h1 (br_f h2 ⟨rfl, J⟩))
theorem lz_16 (x : Int32) : x < 16 ↔ x ≤ 15 := by
  have h3 : (16 : Int32).toInt = 16 := by decide
  have h4 : (15 : Int32).toInt = 15 := by decide
  rw [Int32.lt_iff_toInt_lt, Int32.le_iff_toInt_le, h3, h4]
  omega
theorem i_vc_differ {k : Nat} {u : SX} {v : SY} (I : i_Rel k u v) (hk : k + 5 ≤ 2560) (v1 : Int32) : wpX_differ (fun r u' => wpY_differ (fun r' v' => r' = r ∧ i_Rel (k + 5) u' v') v v1) u v1 := by
  have J : i_Rel (k + 5) u v := I
  obtain ⟨c, f, h, b, kd, dt, rfl, rfl, B, R⟩ := I
  unfold wpX_differ wpY_differ
  dsimp only
  by_cases h1 : v1 < 0
  · exact br_t h1 (br_t h1 ⟨rfl, J⟩)
  refine br_f h1 ?_
  by_cases h2 : v1 < 16
  · have h3 := (lz_16 v1).mp h2
    refine br_t h2 ?_
    by_cases hc : c < 10
    · refine br_t (lz_c10 hc).1 ⟨256 + 1, lz_difX hc (fun b' I' => ?_) 256 0 b rfl lz_Inv0⟩
      refine br_f h1 (br_t h3 (br_f (lz_c10 hc).2 ?_))
      rw [lz_5a, lz_cl (show c * 5 < 1000 by omega)]
      refine ⟨vp_in_nI (by omega) (by decide), nm_e (lz_makeY hc ⟨rfl, c + 1, _, h, b', upd kd c 1, upd dt (c * 5) v1, rfl, rfl, lz_Bg hc B, lz_grow R hc I' (fun t ht => pk_un (by omega)) (fun j hj => ?_)⟩)⟩
      rw [lz_Sat1 pk_us, pk_us]
    · exact br_f (lz_c10' hc R.1).1 (br_f h1 (br_t h3 (br_t (lz_c10' hc R.1).2 ⟨rfl, J⟩)))
  · exact br_f h2 (br_f h1 (br_f (fun z => h2 ((lz_16 v1).mpr z)) ⟨rfl, J⟩))
theorem i_vc_either {k : Nat} {u : SX} {v : SY} (I : i_Rel k u v) (hk : k + 5 ≤ 2560) (v1 : Int32) (v2 : Int32) (v3 : Int32) (v4 : Int32) : wpX_either (fun r u' => wpY_either (fun r' v' => r' = r ∧ i_Rel (k + 5) u' v') v v1 v2 v3 v4) u v1 v2 v3 v4 := by
  have J : i_Rel (k + 5) u v := I
  obtain ⟨c, f, h, b, kd, dt, rfl, rfl, B, R⟩ := I
  unfold wpX_either wpY_either
  dsimp only
  by_cases h1 : lz_Ok v1
  · refine lz_isT h1 (br_f (by decide) ?_)
    by_cases h3 : lz_Ok v3
    · refine lz_isT h3 (br_f (by decide) ?_)
      by_cases h2 : lz_Ok v2
      · refine lz_ivT h2 (br_f (by decide) ?_)
        by_cases h4 : lz_Ok v4
        · refine lz_ivT h4 (br_f (by decide) ?_)
          by_cases hc : c < 10
          · refine br_t (lz_c10 hc).1 ⟨256 + 1, lz_eitX hc (fun b' I' => ?_) 256 0 b rfl lz_Inv0⟩
            refine lz_yg h1 (lz_yg h3 (lz_yg h2 (lz_zg h4 (br_f (lz_c10 hc).2 ?_))))
            rw [lz_5a, show nI (c * 5) + 1 = nI (c * 5 + 1) from nI_add _ 1, show nI (c * 5) + 2 = nI (c * 5 + 2) from nI_add _ 2, show nI (c * 5) + 3 = nI (c * 5 + 3) from nI_add _ 3, lz_cl (show c * 5 < 1000 by omega), lz_cl (show c * 5 + 1 < 1000 by omega), lz_cl (show c * 5 + 2 < 1000 by omega), lz_cl (show c * 5 + 3 < 1000 by omega)]
            refine ⟨vp_in_nI (by omega) (by decide), nm_e ⟨vp_in_nI (by omega) (by decide), nm_e ⟨vp_in_nI (by omega) (by decide), nm_e ⟨vp_in_nI (by omega) (by decide), nm_e (lz_makeY hc ⟨rfl, c + 1, _, h, b', upd kd c 2, upd (upd (upd (upd dt (c * 5) v1) (c * 5 + 1) v2) (c * 5 + 2) v3) (c * 5 + 3) v4, rfl, rfl, lz_Bg hc B, lz_grow R hc I' (fun t ht => ?_) (fun j hj => ?_)⟩)⟩⟩⟩⟩
            · rw [pk_un (by omega), pk_un (by omega), pk_un (by omega), pk_un (by omega)]
            · rw [lz_Sat2 pk_us, pk_us, pk_un (show c * 5 + 2 ≠ c * 5 + 3 by omega), pk_us, pk_un (show c * 5 + 1 ≠ c * 5 + 3 by omega), pk_un (show c * 5 + 1 ≠ c * 5 + 2 by omega), pk_us, pk_un (show c * 5 ≠ c * 5 + 3 by omega), pk_un (show c * 5 ≠ c * 5 + 2 by omega), pk_un (show c * 5 ≠ c * 5 + 1 by omega), pk_us]
          · exact br_f (lz_c10' hc R.1).1 (lz_yg h1 (lz_yg h3 (lz_yg h2 (lz_zg h4 (br_t (lz_c10' hc R.1).2 ⟨rfl, J⟩)))))
        · exact lz_ivF h4 (br_t rfl (lz_yg h1 (lz_yg h3 (lz_yg h2 (lz_zb h4 ⟨rfl, J⟩)))))
      · exact lz_ivF h2 (br_t rfl (lz_yg h1 (lz_yg h3 (lz_yb h2 ⟨rfl, J⟩))))
    · exact lz_isF h3 (br_t rfl (lz_yg h1 (lz_yb h3 ⟨rfl, J⟩)))
  · exact lz_isF h1 (br_t rfl (lz_yb h1 ⟨rfl, J⟩))
theorem i_vc_constraints {k : Nat} {u : SX} {v : SY} (I : i_Rel k u v) (hk : k + 5 ≤ 2560) : wpX_constraints (fun r => wpY_constraints (fun r' => r' = r ∧ i_Rel (k + 5) u v) v) u := by
  have J : i_Rel (k + 5) u v := I
  obtain ⟨c, f, h, b, kd, dt, rfl, rfl, B, R⟩ := I
  exact ⟨rfl, J⟩
theorem lz_icT {post : Int32 → Prop} {c q : Nat} (hc : c ≤ 10) (hq : q < c) {f : Int32} {h b : Nat → Int32} (H : post 1) : wpX_isConstraint post (nI c, f, h, b) (nI q) := br_f (nI_pos (by omega)) (br_f (nI_ge hq (by omega)) H)
theorem i_vc_force {k : Nat} {u : SX} {v : SY} (I : i_Rel k u v) (hk : k + 5 ≤ 2560) (v1 : Int32) (v2 : Int32) : wpX_force (fun r u' => wpY_force (fun r' v' => r' = r ∧ i_Rel (k + 5) u' v') v v1 v2) u v1 v2 := by
  have J : i_Rel (k + 5) u v := I
  obtain ⟨c, f, h, b, kd, dt, rfl, rfl, B, R⟩ := I
  have hc := R.1
  unfold wpX_force wpY_force
  dsimp only
  rcases pk_ix v1 (n := c) (by omega) with z | z | ⟨q, hq, rfl⟩
  · exact br_t z (br_t rfl (br_t z ⟨rfl, J⟩))
  · by_cases y : v1 < 0
    · exact br_t y (br_t rfl (br_t y ⟨rfl, J⟩))
    · exact br_f y (br_t z (br_t rfl (br_f y (br_f (Int32.not_lt.mpr z) ⟨rfl, J⟩))))
  · refine lz_icT hc hq (br_f (by decide) (nm_e ?_))
    have hB : lz_B c (f ||| ((1 : Int32) <<< (nI q &&& 31))) := fun i hi => by rw [lz_on (by omega), B i hi, decide_eq_false (by omega), Bool.or_false]
    have hO : lz_B c (f &&& (((1 : Int32) <<< (nI q &&& 31)) ^^^ (-1))) := lz_Bo (by omega) B
    rw [lz_shr (show q < 32 by omega) f]
    have y0 := nI_pos (n := q) (by omega)
    have y1 : nI q < nI c := nI_lt hq (by omega)
    cases w : bt f q
    · refine br_t ((lz_and0 (by omega) f).mpr w) ?_
      by_cases o : v2 = 0
      · exact br_t o (nm_e (br_f y0 (br_t y1 (nm_e (br_t o (nm_e ⟨rfl, c, _, h, b, kd, dt, rfl, rfl, hO, R⟩))))))
      · exact br_f o (nm_e (br_f y0 (br_t y1 (nm_e (br_f o (nm_e ⟨rfl, c, _, h, b, kd, dt, rfl, rfl, hB, R⟩))))))
    · refine br_f (lz_andn (by omega) f w) ?_
      by_cases o : v2 = 0
      · exact br_t o (nm_e (br_f y0 (br_t y1 (nm_e (br_t o (nm_e ⟨rfl, c, _, h, b, kd, dt, rfl, rfl, hO, R⟩))))))
      · exact br_f o (nm_e (br_f y0 (br_t y1 (nm_e (br_f o (nm_e ⟨rfl, c, _, h, b, kd, dt, rfl, rfl, hB, R⟩))))))
theorem i_vc_clear {k : Nat} {u : SX} {v : SY} (I : i_Rel k u v) (hk : k + 5 ≤ 2560) : wpX_clear (fun u' => wpY_clear (fun v' => i_Rel (k + 5) u' v') v) u := by
  obtain ⟨c, f, h, b, kd, dt, rfl, rfl, B, R⟩ := I
  exact ⟨0, 0, h, b, kd, dt, rfl, rfl, fun i _ => b_0 i, by omega, fun q hq => absurd hq (by omega)⟩
theorem i_vc_solvable {k : Nat} {u : SX} {v : SY} (I : i_Rel k u v) (hk : k + 5 ≤ 2560) : wpX_solvable (fun r => wpY_solvable (fun r' => r' = r ∧ i_Rel (k + 5) u v) v) u := by
  have J : i_Rel (k + 5) u v := I
  obtain ⟨c, f, h, b, kd, dt, rfl, rfl, B, R⟩ := I
  unfold wpX_solvable wpY_solvable
  dsimp only
  rcases lz_can f h R B with ⟨cX, cY⟩ | ⟨cX, t, ht, cY⟩
  · exact cX _ ⟨rfl, cY _ (br_t rfl ⟨rfl, J⟩)⟩
  · exact cX _ ⟨rfl, cY _ (br_f ht ⟨rfl, J⟩)⟩
theorem i_vc_value {k : Nat} {u : SX} {v : SY} (I : i_Rel k u v) (hk : k + 5 ≤ 2560) (v1 : Int32) : wpX_value (fun r => wpY_value (fun r' => r' = r ∧ i_Rel (k + 5) u v) v v1) u v1 := by
  have J : i_Rel (k + 5) u v := I
  obtain ⟨c, f, h, b, kd, dt, rfl, rfl, B, R⟩ := I
  unfold wpX_value wpY_value
  dsimp only
  by_cases h1 : lz_Ok v1
  · obtain ⟨r, hX, hY⟩ := lz_first0 f h R B
    refine lz_isT h1 (br_f (by decide) (hX _ ?_))
    by_cases z : r = -4
    · exact br_t z (lz_zg h1 (hY _ (br_t z ⟨rfl, J⟩)))
    · exact br_f z (lz_vX (lz_zg h1 (hY _ (br_f z (lz_vY ⟨rfl, J⟩)))))
  · exact lz_isF h1 (br_t rfl (lz_zb h1 ⟨rfl, J⟩))
theorem i_vc_firstWith {k : Nat} {u : SX} {v : SY} (I : i_Rel k u v) (hk : k + 5 ≤ 2560) (v1 : Int32) (v2 : Int32) : wpX_firstWith (fun r => wpY_firstWith (fun r' => r' = r ∧ i_Rel (k + 5) u v) v v1 v2) u v1 v2 := by
  have J : i_Rel (k + 5) u v := I
  obtain ⟨c, f, h, b, kd, dt, rfl, rfl, B, R⟩ := I
  unfold wpX_firstWith wpY_firstWith
  dsimp only
  by_cases h1 : lz_Ok v1
  · refine lz_isT h1 (br_f (by decide) ?_)
    by_cases h2 : lz_Ok v2
    · obtain ⟨r, hX, hY⟩ := lz_with (h := h) R B (i := v1) (x := v2) 256 0 rfl
      exact lz_ivT h2 (br_f (by decide) ⟨256 + 1, hX _ (lz_yg h1 (lz_zg h2 ⟨256 + 1, hY _ ⟨rfl, J⟩⟩))⟩)
    · exact lz_ivF h2 (br_t rfl (lz_yg h1 (lz_zb h2 ⟨rfl, J⟩)))
  · exact lz_isF h1 (br_t rfl (lz_yb h1 ⟨rfl, J⟩))
theorem i_vc_values {k : Nat} {u : SX} {v : SY} (I : i_Rel k u v) (hk : k + 5 ≤ 2560) (v1 : Int32) : wpX_values (fun r => wpY_values (fun r' => r' = r ∧ i_Rel (k + 5) u v) v v1) u v1 := by
  have J : i_Rel (k + 5) u v := I
  obtain ⟨c, f, h, b, kd, dt, rfl, rfl, B, R⟩ := I
  unfold wpX_values wpY_values
  dsimp only
  by_cases h1 : lz_Ok v1
  · obtain ⟨r, hX, hY⟩ := lz_vals (h := h) R B (i := v1) 256 0 0 rfl
    exact lz_isT h1 (br_f (by decide) ⟨256 + 1, hX _ (lz_zg h1 ⟨256 + 1, hY _ ⟨rfl, J⟩⟩)⟩)
  · exact lz_isF h1 (br_t rfl (lz_zb h1 ⟨rfl, J⟩))
theorem lz_from (x : Int32) (h : ¬ x < -1) (h' : x < 256) : x ≤ 255 ∧ ∃ j : Nat, j ≤ 256 ∧ x + 1 = nI j := by
  have e1 : (-1 : Int32).toInt = -1 := by decide
  have e5 : (255 : Int32).toInt = 255 := by decide
  have e6 : (256 : Int32).toInt = 256 := by decide
  have e0 : (0 : Int32).toInt = 0 := by decide
  refine ⟨?_, ?_⟩
  · rw [Int32.lt_iff_toInt_lt, e6] at h'
    rw [Int32.le_iff_toInt_le, e5]
    omega
  · by_cases z : x < 0
    · refine ⟨0, by omega, ?_⟩
      have e : x = -1 := by
        apply Int32.toInt_inj.mp
        rw [Int32.lt_iff_toInt_lt, e0] at z
        rw [Int32.lt_iff_toInt_lt, e1] at h
        rw [e1]
        omega
      rw [e]
      decide
    · obtain ⟨j, hj, rfl⟩ := nI_of z
      have hl := (nI_ltI (b := 256) hj (by decide)).mp h'
      exact ⟨j + 1, by omega, nI_1 j⟩
theorem i_vc_after {k : Nat} {u : SX} {v : SY} (I : i_Rel k u v) (hk : k + 5 ≤ 2560) (v1 : Int32) : wpX_after (fun r => wpY_after (fun r' => r' = r ∧ i_Rel (k + 5) u v) v v1) u v1 := by
  have J : i_Rel (k + 5) u v := I
  obtain ⟨c, f, h, b, kd, dt, rfl, rfl, B, R⟩ := I
  unfold wpX_after wpY_after
  dsimp only
  by_cases h1 : v1 < -1
  · exact br_t h1 (br_t h1 ⟨rfl, J⟩)
  · by_cases h2 : v1 < 256
    · obtain ⟨h3, j, hj, ej⟩ := lz_from v1 h1 h2
      rw [ej]
      obtain ⟨r, hX, hY⟩ := lz_firstW f h R B hj
      exact br_f h1 (br_t h2 (hX _ (br_f h1 (br_t h3 (hY _ ⟨rfl, J⟩)))))
    · have h3 : ¬ v1 ≤ 255 := by
        have e5 : (255 : Int32).toInt = 255 := by decide
        have e6 : (256 : Int32).toInt = 256 := by decide
        rw [Int32.lt_iff_toInt_lt, e6] at h2
        rw [Int32.le_iff_toInt_le, e5]
        omega
      exact br_f h1 (br_f h2 (br_f h1 (br_f h3 ⟨rfl, J⟩)))
theorem i_vc_smallest {k : Nat} {u : SX} {v : SY} (I : i_Rel k u v) (hk : k + 5 ≤ 2560) : wpX_smallest (fun r => wpY_smallest (fun r' => r' = r ∧ i_Rel (k + 5) u v) v) u := by
  have J : i_Rel (k + 5) u v := I
  obtain ⟨c, f, h, b, kd, dt, rfl, rfl, B, R⟩ := I
  unfold wpX_smallest wpY_smallest
  dsimp only
  obtain ⟨r, hX, hY⟩ := lz_small (h := h) R B 256 0 1000 rfl
  exact ⟨256 + 1, hX _ ⟨256 + 1, hY _ ⟨rfl, J⟩⟩⟩
theorem i_vc_blame {k : Nat} {u : SX} {v : SY} (I : i_Rel k u v) (hk : k + 5 ≤ 2560) : wpX_blame (fun r => wpY_blame (fun r' => r' = r ∧ i_Rel (k + 5) u v) v) u := by
  have J : i_Rel (k + 5) u v := I
  obtain ⟨c, f, h, b, kd, dt, rfl, rfl, B, R⟩ := I
  unfold wpX_blame wpY_blame
  dsimp only
  rcases lz_can f h R B with ⟨cX, cY⟩ | ⟨cX, t, ht, cY⟩
  · obtain ⟨r, hX, hY⟩ := lz_blame (f := f) (h := h) R c 0 f (by omega) B
    exact cX _ (br_t rfl ⟨c + 1, hX _ (cY _ (br_t rfl ⟨c + 1, hY _ ⟨rfl, J⟩⟩))⟩)
  · exact cX _ (br_f (by decide) (cY _ (br_f ht ⟨rfl, J⟩)))
theorem i_vc_follows {k : Nat} {u : SX} {v : SY} (I : i_Rel k u v) (hk : k + 5 ≤ 2560) (v1 : Int32) : wpX_follows (fun r => wpY_follows (fun r' => r' = r ∧ i_Rel (k + 5) u v) v v1) u v1 := by
  have J : i_Rel (k + 5) u v := I
  obtain ⟨c, f, h, b, kd, dt, rfl, rfl, B, R⟩ := I
  have hc := R.1
  unfold wpX_follows wpY_follows
  dsimp only
  rcases pk_ix v1 (n := c) (by omega) with z | z | ⟨q, hq, rfl⟩
  · exact br_t z (br_t rfl (br_t z ⟨rfl, J⟩))
  · by_cases y : v1 < 0
    · exact br_t y (br_t rfl (br_t y ⟨rfl, J⟩))
    · exact br_f y (br_t z (br_t rfl (br_f y (br_f (Int32.not_lt.mpr z) ⟨rfl, J⟩))))
  · obtain ⟨r, hX, hY⟩ := lz_follow (f := f) (h := h) R (lz_Bo (q := q) (by omega) B) hq 256 0 rfl
    exact lz_icT hc hq (br_f (by decide) (nm_e (nm_e ⟨256 + 1, hX _ (br_f (nI_pos (by omega)) (br_t (nI_lt hq (by omega)) (nm_e ⟨256 + 1, hY _ ⟨rfl, J⟩⟩)))⟩)))
end
