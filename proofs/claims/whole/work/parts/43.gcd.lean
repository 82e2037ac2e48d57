/-! ===== the greatest common divisor, on both sides ===== -/
theorem lg_eq0 (x : Int64) : (lg_cmp x (0 : Int64) = 0) ↔ x = lN 0 := lg_cmp_eq x 0
theorem gcd_st (x y : Nat) : Nat.gcd y (x % y) = Nat.gcd x y := by rw [Nat.gcd_comm x y, Nat.gcd_rec y x, Nat.gcd_comm]
theorem half_st {x y k : Nat} (h : y ≤ x) (h0 : 0 < y) (hp : x * y < 2 ^ (k + 1)) : y * (x % y) < 2 ^ k := by
  have h1 : x % y < y := Nat.mod_lt _ h0
  have h2 : x % y ≤ x - y := by
    rw [Nat.mod_eq_sub_mod h]
    exact Nat.mod_le _ _
  have h3 : 2 * (x % y) ≤ x := by omega
  have h4 : y * (2 * (x % y)) ≤ y * x := Nat.mul_le_mul_left _ h3
  rw [Nat.mul_left_comm, Nat.mul_comm y x] at h4
  rw [Nat.pow_succ] at hp
  omega
theorem div_l : ∀ (k x y m : Nat), x < 9223372036854775808 → y ≤ x → x * y < 2 ^ k → k < m → lp (f_X12_divisor_l28) m (lN x, lN y) = some (lN (Nat.gcd x y))
  | k, x, 0, 0, _, _, _, h => absurd h (by omega)
  | k, x, 0, m + 1, hx, hy, hp, hm => by
    rw [lp_succ]
    unfold f_X12_divisor_l28
    rw [if_pos ((lg_eq0 _).2 rfl), Nat.gcd_zero_right]
  | 0, x, y + 1, m, hx, hy, hp, hm => by
    exfalso
    have : 1 * 1 ≤ x * (y + 1) := Nat.mul_le_mul (by omega) (by omega)
    omega
  | k + 1, x, y + 1, 0, _, _, _, h => absurd h (by omega)
  | k + 1, x, y + 1, m + 1, hx, hy, hp, hm => by
    have ih := div_l k (y + 1) (x % (y + 1)) m (by omega) (Nat.le_of_lt (Nat.mod_lt _ (by omega))) (half_st hy (by omega) hp) (by omega)
    rw [gcd_st] at ih
    rw [lp_succ]
    generalize lp (f_X12_divisor_l28) m = K at ih ⊢
    unfold f_X12_divisor_l28
    have e : ¬ (lg_cmp (lN (y + 1)) (0 : Int64) = 0) := by
      rw [lg_eq0, pk_lEQ (by omega) (by omega)]
      omega
    simp only [if_neg e, lt_e, dvJ_n (show 0 < y + 1 by omega) (show y + 1 < 9223372036854775808 by omega), pk_lRem (show x < 2 ^ 63 by omega) (show 0 < y + 1 by omega) (show y + 1 < 2 ^ 63 by omega)]
    exact ih
/-- the first step puts the greater one first -/
theorem div_f (x y m : Nat) (hx : x < 9223372036854775808) (hy : y < 9223372036854775808) (hm : 200 < m) : lp (f_X12_divisor_l28) m (lN x, lN y) = some (lN (Nat.gcd x y)) := by
  have hp : ∀ a b : Nat, a < 9223372036854775808 → b < 9223372036854775808 → a * b < 2 ^ 126 := fun a b ha hb => by
    have : a * b < 2 ^ 63 * 2 ^ 63 := Nat.mul_lt_mul'' (by omega) (by omega)
    rw [← Nat.pow_add] at this
    exact this
  by_cases h : y ≤ x
  · exact div_l 126 x y m hx h (hp x y hx hy) (by omega)
  obtain ⟨m, rfl⟩ : ∃ m', m = m' + 1 := ⟨m - 1, by omega⟩
  have ih := div_l 126 y (x % y) m hy (Nat.le_of_lt (Nat.mod_lt _ (by omega))) (hp _ _ hy (by have := Nat.mod_le x y; omega)) (by omega)
  rw [gcd_st] at ih
  rw [lp_succ]
  generalize lp (f_X12_divisor_l28) m = K at ih ⊢
  unfold f_X12_divisor_l28
  have e : ¬ (lg_cmp (lN y) (0 : Int64) = 0) := by
    rw [lg_eq0, pk_lEQ (by omega) (by omega)]
    omega
  simp only [if_neg e, lt_e, dvJ_n (show 0 < y by omega) hy, pk_lRem (show x < 2 ^ 63 by omega) (show 0 < y by omega) (show y < 2 ^ 63 by omega)]
  exact ih
theorem i64_eq {a b : Int64} (h : a.toInt = b.toInt) : a = b := Int64.toInt_inj.mp h
theorem bmJ {x : Int} (h1 : -9223372036854775808 ≤ x) (h2 : x < 9223372036854775808) : x.bmod (2 ^ 64) = x := by
  rw [Int.bmod_def]
  have : (2 ^ 64 : Nat) = 18446744073709551616 := rfl
  simp only [this]
  omega
theorem i64_bd (a : Int64) : -9223372036854775808 ≤ a.toInt ∧ a.toInt < 9223372036854775808 := ⟨Int64.le_toInt a, Int64.toInt_lt a⟩
theorem negJ {a : Int64} (h : -9223372036854775808 < a.toInt) : (-a).toInt = - a.toInt := by
  have := i64_bd a
  rw [Int64.toInt_neg, bmJ (by omega) (by omega)]
theorem addJ {a b : Int64} (h1 : -9223372036854775808 ≤ a.toInt + b.toInt) (h2 : a.toInt + b.toInt < 9223372036854775808) : (a + b).toInt = a.toInt + b.toInt := by rw [Int64.toInt_add, bmJ h1 h2]
theorem subJ {a b : Int64} (h1 : -9223372036854775808 ≤ a.toInt - b.toInt) (h2 : a.toInt - b.toInt < 9223372036854775808) : (a - b).toInt = a.toInt - b.toInt := by rw [Int64.toInt_sub, bmJ h1 h2]
theorem mulJ {a b : Int64} (h1 : -9223372036854775808 ≤ a.toInt * b.toInt) (h2 : a.toInt * b.toInt < 9223372036854775808) : (a * b).toInt = a.toInt * b.toInt := by rw [Int64.toInt_mul, bmJ h1 h2]
theorem abJ {a : Int64} (h : -9223372036854775808 < a.toInt) : (0 ≤ a.toInt → a = lN a.toInt.natAbs) ∧ (a.toInt ≤ 0 → -a = lN a.toInt.natAbs) := by
  have h2 := i64_bd a
  constructor
  · intro h0
    apply i64_eq
    rw [pk_lT (by omega)]
    omega
  · intro h0
    apply i64_eq
    rw [pk_lT (by omega), negJ h]
    omega
theorem J0 : (0 : Int64).toInt = 0 := rfl
theorem m_gcd {a b : Int64} (ha : -9223372036854775808 < a.toInt) (hb : -9223372036854775808 < b.toInt) : f_X12_divisor a b = some (lN (Nat.gcd a.toInt.natAbs b.toInt.natAbs)) := by
  have h1 := i64_bd a
  have h2 := i64_bd b
  have hl := div_f a.toInt.natAbs b.toInt.natAbs FU (by omega) (by omega) (by rw [FU_e]; omega)
  unfold f_X12_divisor f_X12_divisor_j12 f_X12_divisor_j26
  simp only [jn_e, lg_cmp_ge, i64_le, J0]
  have hb' : (if 0 ≤ b.toInt then lp (f_X12_divisor_l28) FU (lN a.toInt.natAbs, b) else lp (f_X12_divisor_l28) FU (lN a.toInt.natAbs, -b)) = some (lN (Nat.gcd a.toInt.natAbs b.toInt.natAbs)) := by
    by_cases e : 0 ≤ b.toInt
    · rw [if_pos e, (abJ hb).1 e, ← (abJ hb).1 e]
      rw [← (abJ hb).1 e] at hl
      exact hl
    · rw [if_neg e, (abJ hb).2 (by omega)]
      exact hl
  by_cases e : 0 ≤ a.toInt
  · rw [if_pos e]
    rw [← (abJ ha).1 e] at hb'
    exact hb'
  · rw [if_neg e, (abJ ha).2 (by omega)]
    exact hb'
theorem com_l : ∀ (k x y i m : Nat), x < 9223372036854775808 → y ≤ x → x * y < 2 ^ k → k < m → i + k < 200 → lp (f_X7_common_l15) m (lN x, lN y, nI i) = some (lN (Nat.gcd x y))
  | k, x, 0, i, 0, _, _, _, h, _ => absurd h (by omega)
  | k, x, 0, i, m + 1, hx, hy, hp, hm, hi => by
    rw [lp_succ]
    unfold f_X7_common_l15
    have e0 : ¬ ((200 : Int32) ≤ nI i) := nI_ge (a := i) (b := 200) (by omega) (by omega)
    rw [if_neg e0, if_pos ((lg_eq0 _).2 rfl), Nat.gcd_zero_right]
  | 0, x, y + 1, i, m, hx, hy, hp, hm, hi => by
    exfalso
    have : 1 * 1 ≤ x * (y + 1) := Nat.mul_le_mul (by omega) (by omega)
    omega
  | k + 1, x, y + 1, i, 0, _, _, _, h, _ => absurd h (by omega)
  | k + 1, x, y + 1, i, m + 1, hx, hy, hp, hm, hi => by
    have ih := com_l k (y + 1) (x % (y + 1)) (i + 1) m (by omega) (Nat.le_of_lt (Nat.mod_lt _ (by omega))) (half_st hy (by omega) hp) (by omega) (by omega)
    rw [gcd_st] at ih
    rw [lp_succ]
    generalize lp (f_X7_common_l15) m = K at ih ⊢
    unfold f_X7_common_l15
    have e0 : ¬ ((200 : Int32) ≤ nI i) := nI_ge (a := i) (b := 200) (by omega) (by omega)
    have e : ¬ (lg_cmp (lN (y + 1)) (0 : Int64) = 0) := by
      rw [lg_eq0, pk_lEQ (by omega) (by omega)]
      omega
    simp only [if_neg e0, if_neg e, lt_e, dvJ_n (show 0 < y + 1 by omega) (show y + 1 < 9223372036854775808 by omega), pk_lRem (show x < 2 ^ 63 by omega) (show 0 < y + 1 by omega) (show y + 1 < 2 ^ 63 by omega), nI_1]
    exact ih
theorem com_f (x y m : Nat) (hx : x < 9223372036854775808) (hy : y < 9223372036854775808) (hm : 200 < m) : lp (f_X7_common_l15) m (lN x, lN y, (0 : Int32)) = some (lN (Nat.gcd x y)) := by
  have hp : ∀ a b : Nat, a < 9223372036854775808 → b < 9223372036854775808 → a * b < 2 ^ 126 := fun a b ha hb => by
    have : a * b < 2 ^ 63 * 2 ^ 63 := Nat.mul_lt_mul'' (by omega) (by omega)
    rw [← Nat.pow_add] at this
    exact this
  by_cases h : y ≤ x
  · exact com_l 126 x y 0 m hx h (hp x y hx hy) (by omega) (by omega)
  obtain ⟨m, rfl⟩ : ∃ m', m = m' + 1 := ⟨m - 1, by omega⟩
  have ih := com_l 126 y (x % y) 1 m hy (Nat.le_of_lt (Nat.mod_lt _ (by omega))) (hp _ _ hy (by have := Nat.mod_le x y; omega)) (by omega) (by omega)
  rw [gcd_st] at ih
  rw [lp_succ]
  generalize lp (f_X7_common_l15) m = K at ih ⊢
  unfold f_X7_common_l15
  have e0 : ¬ ((200 : Int32) ≤ 0) := by decide
  have e : ¬ (lg_cmp (lN y) (0 : Int64) = 0) := by
    rw [lg_eq0, pk_lEQ (by omega) (by omega)]
    omega
  simp only [if_neg e0, if_neg e, lt_e, dvJ_n (show 0 < y by omega) hy, pk_lRem (show x < 2 ^ 63 by omega) (show 0 < y by omega) (show y < 2 ^ 63 by omega)]
  exact ih
theorem c_gcd {a b : Int64} (ha : -9223372036854775808 < a.toInt) (hb : -9223372036854775808 < b.toInt) : f_X7_common a b = some (lN (Nat.gcd a.toInt.natAbs b.toInt.natAbs)) := by
  have h1 := i64_bd a
  have h2 := i64_bd b
  have hl := com_f a.toInt.natAbs b.toInt.natAbs FU (by omega) (by omega) (by rw [FU_e]; omega)
  unfold f_X7_common
  simp only [lt_e]
  have e1 : (if 0 < a then a else -a) = lN a.toInt.natAbs := by
    by_cases e : 0 < a
    · rw [if_pos e]
      rw [i64_lt, J0] at e
      exact (abJ ha).1 (by omega)
    · rw [if_neg e]
      rw [i64_lt, J0] at e
      exact (abJ ha).2 (by omega)
  have e2 : (if 0 < b then b else -b) = lN b.toInt.natAbs := by
    by_cases e : 0 < b
    · rw [if_pos e]
      rw [i64_lt, J0] at e
      exact (abJ hb).1 (by omega)
    · rw [if_neg e]
      rw [i64_lt, J0] at e
      exact (abJ hb).2 (by omega)
  rw [e1, e2]
  exact hl
/-- least terms are least terms -/
theorem least_terms {a b c e : Nat} (hb : 0 < b) (he : 0 < e) (h : a * e = b * c) : a / Nat.gcd a b = c / Nat.gcd c e ∧ b / Nat.gcd a b = e / Nat.gcd c e := by
  have h1 : Nat.gcd a b * e = b * Nat.gcd c e := by rw [← Nat.gcd_mul_right, h, ← Nat.gcd_mul_left]
  constructor
  · rw [← Nat.mul_div_mul_right a (Nat.gcd a b) he, h1, h, Nat.mul_div_mul_left _ _ hb]
  · rw [← Nat.mul_div_mul_right b (Nat.gcd a b) he, h1, Nat.mul_div_mul_left _ _ hb]
