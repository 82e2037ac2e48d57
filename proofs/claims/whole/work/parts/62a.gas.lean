/-! ===== division that rounds down ===== -/
theorem xor_sg {a b : Int32} (hb : 0 ≤ b.toInt) {α : Type} (x y : α) : (if (0 : Int32) ≤ a ^^^ b then x else y) = if 0 ≤ a.toInt then x else y := by
  have h1 : (a ^^^ b).toBitVec.msb = (a.toBitVec.msb ^^ b.toBitVec.msb) := by rw [Int32.toBitVec_xor, BitVec.msb_xor]
  rw [BitVec.msb_eq_toInt, BitVec.msb_eq_toInt, BitVec.msb_eq_toInt, Int32.toInt_toBitVec, Int32.toInt_toBitVec, Int32.toInt_toBitVec, decide_eq_false (show ¬ b.toInt < 0 by omega), Bool.xor_false] at h1
  have h2 : (a ^^^ b).toInt < 0 ↔ a.toInt < 0 := decide_eq_decide.1 h1
  by_cases e : 0 ≤ a.toInt
  · rw [if_pos e, if_pos (by rw [i32_le, l_0]; omega)]
  · rw [if_neg e, if_neg (by rw [i32_le, l_0]; omega)]
theorem tdiv_bd {a b : Int} (hb : 0 < b) : -(a.natAbs : Int) ≤ a.tdiv b ∧ a.tdiv b ≤ (a.natAbs : Int) := by
  rw [Int.tdiv_eq_ediv]
  have h1 := Int.ediv_mul_le a (show b ≠ 0 by omega)
  have h2 := Int.lt_ediv_add_one_mul_self a hb
  have hs : b.sign = 1 := Int.sign_eq_one_of_pos hb
  rw [hs]
  generalize a / b = q at *
  by_cases h0 : 0 ≤ a
  · rw [if_pos (Or.inl h0)]
    have hq : 0 ≤ q := by
      apply Int.not_lt.1
      intro hq
      have : (q + 1) * b ≤ 0 * b := Int.mul_le_mul_of_nonneg_right (by omega) (by omega)
      omega
    have : q * 1 ≤ q * b := Int.mul_le_mul_of_nonneg_left (by omega) hq
    omega
  · have hq : q ≤ -1 := by
      apply Int.not_lt.1
      intro hq
      have : 0 * b ≤ q * b := Int.mul_le_mul_of_nonneg_right (by omega) (by omega)
      omega
    have hq2 : (q + 1) * b ≤ (q + 1) * 1 := by
      apply Int.mul_le_mul_of_nonpos_left (by omega) (by omega)
    split <;> omega
theorem floor_e {a b : Int32} (hb : 0 < b.toInt) (hb2 : b.toInt ≤ 100) (ha : -1000000 ≤ a.toInt ∧ a.toInt ≤ 1000000) : ∃ r, f_J9_floorDiv_7cf53 a b = some r ∧ r.toInt = a.toInt / b.toInt := by
  have hbd := tdiv_bd (a := a.toInt) hb
  have hx : (a / b).toInt = a.toInt.tdiv b.toInt := by rw [Int32.toInt_div, bmI (by omega) (by omega)]
  have hne : ¬ b = 0 := fun e => by rw [e, l_0] at hb; omega
  unfold f_J9_floorDiv_7cf53 dvI
  rw [if_neg hne, lt_e, xor_sg (by omega)]
  by_cases h0 : 0 ≤ a.toInt
  · rw [if_pos h0]
    exact ⟨_, rfl, by rw [hx, Int.tdiv_eq_ediv_of_nonneg h0]⟩
  · rw [if_neg h0]
    have hq1 : -(1000000 * 100) ≤ a.toInt.tdiv b.toInt * b.toInt ∧ a.toInt.tdiv b.toInt * b.toInt ≤ 1000000 * 100 := by
      constructor
      · have h1 : (-1000000) * b.toInt ≤ a.toInt.tdiv b.toInt * b.toInt := Int.mul_le_mul_of_nonneg_right (by omega) (by omega)
        omega
      · have h1 : a.toInt.tdiv b.toInt * b.toInt ≤ 1000000 * b.toInt := Int.mul_le_mul_of_nonneg_right (by omega) (by omega)
        omega
    have hm : (a / b * b).toInt = a.toInt.tdiv b.toInt * b.toInt := by rw [mulI (by rw [hx]; omega) (by rw [hx]; omega), hx]
    by_cases hd : a / b * b = a
    · rw [if_pos hd]
      refine ⟨_, rfl, ?_⟩
      have e : a.toInt.tdiv b.toInt * b.toInt = a.toInt := by rw [← hm, hd]
      rw [hx]
      rw [Int.tdiv_eq_ediv, if_pos (Or.inr ⟨a.toInt.tdiv b.toInt, by rw [Int.mul_comm]; exact e.symm⟩), Int.add_zero]
    · rw [if_neg hd]
      refine ⟨_, rfl, ?_⟩
      have hnd : ¬ b.toInt ∣ a.toInt := fun hdv => by
        apply hd
        apply Int32.toInt_inj.1
        rw [hm, Int.tdiv_eq_ediv_of_dvd hdv, Int.ediv_mul_cancel hdv]
      have e : a.toInt.tdiv b.toInt = a.toInt / b.toInt + 1 := by
        rw [Int.tdiv_eq_ediv, if_neg (fun h => h.elim h0 hnd), Int.sign_eq_one_of_pos hb]
      rw [subI (by rw [hx, l_1]; omega) (by rw [hx, l_1]; omega), hx, l_1, e]
      omega
theorem negI {a : Int32} (h1 : -2147483648 < a.toInt) : (-a).toInt = -a.toInt := by
  have := i32_bd a
  rw [Int32.toInt_neg, bmI (by omega) (by omega)]
theorem ceil_iff {f s c : Int} (hs : 0 < s) : -((-f) / s) ≤ c ↔ f ≤ s * c := by
  have h := Int.le_ediv_iff_mul_le (a := -c) (b := -f) hs
  constructor
  · intro h1
    have h2 := h.1 (by omega)
    rw [Int.neg_mul, Int.mul_comm c s] at h2
    omega
  · intro h1
    have h2 := h.2 (by rw [Int.neg_mul, Int.mul_comm c s]; omega)
    omega
theorem floor_iff {t s c : Int} (hs : 0 < s) : c ≤ t / s ↔ s * c ≤ t := by
  rw [Int.le_ediv_iff_mul_le hs, Int.mul_comm]
theorem div_bd {a b : Int} (hb : 0 < b) (ha : -1000000 ≤ a ∧ a ≤ 1000000) : -1000001 ≤ a / b ∧ a / b ≤ 1000001 := by
  constructor
  · exact (Int.le_ediv_iff_mul_le hb).2 (by
      have : (-1000001) * b ≤ (-1000001) * 1 := Int.mul_le_mul_of_nonpos_left (by omega) (by omega)
      omega)
  · have := Int.ediv_lt_of_lt_mul hb (a := a) (b := 1000002) (by
      have : 1000002 * 1 ≤ 1000002 * b := Int.mul_le_mul_of_nonneg_left (by omega) (by omega)
      omega)
    omega
/-- one gauge narrows -/
theorem c_narrow {σ : Hp} {s : Nat} {f t : Int32} {lo hi : Int} (hs : s ≤ 9) (hf : -1000000 ≤ f.toInt ∧ f.toInt ≤ 1000000) (ht : -1000000 ≤ t.toInt ∧ t.toInt ≤ 1000000) (h4 : (σ.1 67 4).toInt = lo) (h5 : (σ.1 67 5).toInt = hi) (hlo : 0 ≤ lo) (hhi : hi ≤ 40) : ∃ σ' lo' hi', f_X3_narrow (nI s) f t σ = some σ' ∧ (∀ a, a ≠ 67 → σ'.1 a = σ.1 a) ∧ (σ'.1 67 4).toInt = lo' ∧ (σ'.1 67 5).toInt = hi' ∧ 0 ≤ lo' ∧ hi' ≤ 40 ∧ ∀ c : Int, 0 ≤ c → ((lo ≤ c ∧ c ≤ hi) ∧ f.toInt ≤ s * c ∧ s * c ≤ t.toInt ↔ lo' ≤ c ∧ c ≤ hi') := by
  unfold f_X3_narrow f_X3_narrow_j49
  by_cases hs0 : s = 0
  · subst hs0
    rw [show ∀ y z : Option Hp, (if nI 0 ≤ (0 : Int32) then y else z) = y from fun y z => le_t (b := 0) (Nat.le_refl _) (by omega), jn_e, lt_e]
    have hK : ∃ σ' lo' hi', (some (sI σ 67 5 (-1)) : Option Hp) = some σ' ∧ (∀ a, a ≠ 67 → σ'.1 a = σ.1 a) ∧ (σ'.1 67 4).toInt = lo' ∧ (σ'.1 67 5).toInt = hi' ∧ 0 ≤ lo' ∧ hi' ≤ 40 ∧ hi' = -1 := ⟨sI σ 67 5 (-1), lo, -1, rfl, fun a ha => by rw [sI_1, if_neg ha], h4, rfl, hlo, by omega, rfl⟩
    simp only [i32_lt, i32_le, l_0]
    by_cases c1 : 0 < f.toInt
    · rw [if_pos c1]
      obtain ⟨σ', lo', hi', k1, k2, k3, k4, k5, k6, k7⟩ := hK
      refine ⟨σ', lo', hi', k1, k2, k3, k4, k5, k6, fun c hc => ?_⟩
      constructor
      · rintro ⟨-, g, -⟩; rw [show ((0 : Nat) : Int) * c = 0 from Int.zero_mul c] at g; omega
      · rintro ⟨-, g⟩; omega
    · rw [if_neg c1]
      by_cases c2 : 0 ≤ t.toInt
      · rw [if_pos c2]
        refine ⟨σ, lo, hi, rfl, fun _ _ => rfl, h4, h5, hlo, hhi, fun c hc => ?_⟩
        rw [show ((0 : Nat) : Int) * c = 0 from Int.zero_mul c]
        constructor
        · rintro ⟨g, -, -⟩; exact g
        · intro g; exact ⟨g, by omega, by omega⟩
      · rw [if_neg c2]
        obtain ⟨σ', lo', hi', k1, k2, k3, k4, k5, k6, k7⟩ := hK
        refine ⟨σ', lo', hi', k1, k2, k3, k4, k5, k6, fun c hc => ?_⟩
        constructor
        · rintro ⟨-, -, g⟩; rw [show ((0 : Nat) : Int) * c = 0 from Int.zero_mul c] at g; omega
        · rintro ⟨-, g⟩; omega
  · have hsp : 0 < (nI s).toInt := by rw [nI_toInt (by omega)]; omega
    have hnf := negI (a := f) (by omega)
    obtain ⟨r3, e3, v3⟩ := floor_e (a := -f) hsp (by rw [nI_toInt (by omega)]; omega) (by rw [hnf]; omega)
    obtain ⟨r5, e5, v5⟩ := floor_e (a := t) hsp (by rw [nI_toInt (by omega)]; omega) ht
    rw [nI_toInt (by omega)] at v3 v5 hsp
    rw [hnf] at v3
    have b3 := div_bd (a := -f.toInt) hsp (by omega)
    have b5 := div_bd (a := t.toInt) hsp ht
    have hn3 := negI (a := r3) (by omega)
    rw [show ∀ y z : Option Hp, (if nI s ≤ (0 : Int32) then y else z) = z from fun y z => le_f (b := 0) (by omega) (by omega), e3, cr_s, lt_e, e5, cr_s, lt_e]
    refine ⟨_, max lo (-((-f.toInt) / s)), min hi (t.toInt / s), rfl, fun a ha => by rw [sI_1, if_neg ha, sI_1, if_neg ha], ?_, ?_, by omega, by omega, fun c hc => ?_⟩
    · show (if σ.1 67 4 < -r3 then -r3 else σ.1 67 4).toInt = _
      simp only [i32_lt]
      rw [h4, hn3, v3]
      split
      · rw [hn3, v3]; omega
      · rw [h4]; omega
    · show (if r5 < σ.1 67 5 then r5 else σ.1 67 5).toInt = _
      simp only [i32_lt]
      rw [h5, v5]
      split
      · rw [v5]; omega
      · rw [h5]; omega
    · have g1 := ceil_iff (f := f.toInt) (c := c) hsp
      have g2 := floor_iff (t := t.toInt) (c := c) hsp
      constructor
      · rintro ⟨⟨a1, a2⟩, a3, a4⟩
        have := g1.2 a3
        have := g2.2 a4
        omega
      · rintro ⟨a1, a2⟩
        exact ⟨by omega, g1.1 (by omega), g2.1 (by omega)⟩
