/-! ===== matrices with an outlet from every set of rows ===== -/
def a5 (f : Nat → Int) : Int := f 0 + f 1 + f 2 + f 3 + f 4
def MM (v : Nat → Nat → Int) : Prop := (∀ i j, i < 5 → j < 5 → i ≠ j → v i j ≤ 0) ∧ (∀ i j, i < 5 → j < 5 → v i j = v j i) ∧ (∀ i, i < 5 → 0 ≤ a5 (v i)) ∧ (∀ i, i < 5 → 0 ≤ v i 5) ∧
  ∀ N : Nat → Prop, (∃ i, i < 5 ∧ N i) → ∃ i, i < 5 ∧ N i ∧ (0 < a5 (v i) ∨ ∃ j, j < 5 ∧ ¬ N j ∧ v i j < 0)
theorem i5 {P : Nat → Prop} (h0 : P 0) (h1 : P 1) (h2 : P 2) (h3 : P 3) (h4 : P 4) : ∀ i, i < 5 → P i
  | 0, _ => h0 | 1, _ => h1 | 2, _ => h2 | 3, _ => h3 | 4, _ => h4 | n + 5, h => absurd h (by omega)
theorem nnp {a b : Int} (ha : a ≤ 0) (hb : 0 ≤ b) : a * b ≤ 0 := by
  have := Int.mul_nonneg (show 0 ≤ -a by omega) hb
  rw [Int.neg_mul] at this
  omega
theorem nlt {a b : Int} (ha : a < 0) (hb : 0 < b) : a * b < 0 := by
  have := Int.mul_pos (show 0 < -a by omega) hb
  rw [Int.neg_mul] at this
  omega
theorem a5_le {f : Nat → Int} (h : ∀ j, j < 5 → f j ≤ 0) : a5 f ≤ 0 := by
  have h0 := h 0 (by omega)
  have h1 := h 1 (by omega)
  have h2 := h 2 (by omega)
  have h3 := h 3 (by omega)
  have h4 := h 4 (by omega)
  simp only [a5]
  omega
theorem a5_lt {f : Nat → Int} (h : ∀ j, j < 5 → f j ≤ 0) {j : Nat} (hj : j < 5) (h' : f j < 0) : a5 f < 0 := by
  have h0 := h 0 (by omega)
  have h1 := h 1 (by omega)
  have h2 := h 2 (by omega)
  have h3 := h 3 (by omega)
  have h4 := h 4 (by omega)
  simp only [a5]
  rcases (by omega : j = 0 ∨ j = 1 ∨ j = 2 ∨ j = 3 ∨ j = 4) with rfl | rfl | rfl | rfl | rfl <;> omega
theorem a5_c {f g : Nat → Int} (h : ∀ j, j < 5 → f j = g j) : a5 f = a5 g := by
  simp only [a5]
  rw [h 0 (by omega), h 1 (by omega), h 2 (by omega), h 3 (by omega), h 4 (by omega)]
theorem a5_mono {f g : Nat → Int} (h : ∀ j, j < 5 → f j ≤ g j) : a5 f ≤ a5 g := by
  have h0 := h 0 (by omega)
  have h1 := h 1 (by omega)
  have h2 := h 2 (by omega)
  have h3 := h 3 (by omega)
  have h4 := h 4 (by omega)
  simp only [a5]
  omega
theorem a5_mul (a : Int) (f : Nat → Int) : a * a5 f = a5 (fun c => a * f c) := by
  simp only [a5]
  simp only [Int.mul_add]
theorem a5_swap (f : Nat → Nat → Int) : a5 (fun c => a5 (fun d => f c d)) = a5 (fun d => a5 (fun c => f c d)) := by
  simp only [a5]
  omega
theorem s6_a5 (f : Nat → Int) : s6 f = a5 f + f 5 := rfl
/-- one place of a sum by itself -/
theorem a5_one {f : Nat → Int} {j : Nat} (hj : j < 5) : a5 f = f j + a5 (fun c => if c = j then 0 else f c) := by
  simp only [a5]
  rcases (by omega : j = 0 ∨ j = 1 ∨ j = 2 ∨ j = 3 ∨ j = 4) with rfl | rfl | rfl | rfl | rfl <;> simp only [reduceIte, Nat.reduceEqDiff] <;> omega
theorem ex_min (x : Nat → Int) : ∀ n : Nat, ∃ i, i < n + 1 ∧ ∀ j, j < n + 1 → x i ≤ x j
  | 0 => ⟨0, by omega, fun j hj => by have : j = 0 := by omega
                                      subst this; exact Int.le_refl _⟩
  | n + 1 => by
    obtain ⟨i, h1, h2⟩ := ex_min x n
    by_cases h : x i ≤ x (n + 1)
    · refine ⟨i, by omega, fun j hj => ?_⟩
      by_cases e : j = n + 1
      · subst e; exact h
      · exact h2 j (by omega)
    · refine ⟨n + 1, by omega, fun j hj => ?_⟩
      by_cases e : j = n + 1
      · subst e; exact Int.le_refl _
      · have := h2 j (by omega); omega
/-- where the rows of a set push up, nothing is below 0 -/
theorem mp {v : Nat → Nat → Int} (h : MM v) {T : Nat} {x : Nat → Int} (hx : ∀ c, c < 5 → T.testBit c = false → 0 ≤ x c) (hp : ∀ i, i < 5 → T.testBit i = true → 0 ≤ a5 (fun j => v i j * x j)) : ∀ c, c < 5 → 0 ≤ x c := by
  obtain ⟨i0, hi0, hm⟩ := ex_min x 4
  by_cases h0 : 0 ≤ x i0
  · intro c hc; have := hm c hc; omega
  exfalso
  obtain ⟨i, hi, hN, hout⟩ := h.2.2.2.2 (fun i => x i = x i0) ⟨i0, hi0, rfl⟩
  have hN : x i = x i0 := hN
  have hT : T.testBit i = true := by
    cases e : T.testBit i with
    | true => rfl
    | false => have := hx i hi e; omega
  have h1 := hp i hi hT
  have e1 : a5 (fun j => v i j * x j) = a5 (v i) * x i0 + a5 (fun j => v i j * (x j - x i0)) := by
    simp only [a5]
    simp only [Int.mul_sub, Int.add_mul]
    omega
  have h2 : ∀ j, j < 5 → v i j * (x j - x i0) ≤ 0 := by
    intro j hj
    by_cases e : i = j
    · subst e; rw [hN, Int.sub_self, Int.mul_zero]; exact Int.le_refl 0
    · exact nnp (h.1 i j hi hj e) (by have := hm j hj; omega)
  have h3 := a5_le h2
  have h4 : a5 (v i) * x i0 ≤ 0 := by
    have := Int.mul_nonneg (h.2.2.1 i hi) (show 0 ≤ - x i0 by omega)
    rw [Int.mul_neg] at this
    omega
  rcases hout with h5 | ⟨j, hj, h6, h7⟩
  · have := Int.mul_pos h5 (show 0 < - x i0 by omega)
    rw [Int.mul_neg] at this
    omega
  · have h8 : x j ≠ x i0 := h6
    have h9 := a5_lt h2 hj (nlt h7 (by have := hm j hj; omega))
    omega
theorem dt_a5 (v y : Nat → Int) : dt v y = a5 (fun c => v c * y c) + v 5 * y 5 := rfl
theorem tbT {T c : Nat} (hT : T < 32) (hc : 5 ≤ c) : T.testBit c = false := Nat.testBit_lt_two_pow (Nat.lt_of_lt_of_le hT (by have := Nat.pow_le_pow_right (n := 2) (by omega) hc; omega))
/-- the sum of a row over a set and one more -/
theorem row_sum {v : Nat → Nat → Int} (h : MM v) {i : Nat} (hi : i < 5) (Z : Nat → Prop) [DecidablePred Z] (hZ : Z i) : a5 (v i) ≤ a5 (fun c => if Z c then v i c else 0) := by
  apply a5_mono
  intro c hc
  split
  · exact Int.le_refl _
  · rename_i h2
    exact h.1 i c hi hc (fun e => h2 (e ▸ hZ))
section YY
variable {v : Nat → Nat → Int} {T j : Nat}
/-- between 0 and the minor -/
theorem yT_in (h : MM v) (hT : T < 32) (hj : j < 5) (hjT : T.testBit j = false) (hP : 0 < PT v T) : ∀ c, c < 5 → 0 ≤ yT v T j c ∧ yT v T j c ≤ PT v T := by
  have hy5 : yT v T j 5 = 0 := yT_o v (tbT hT (by omega)) (by omega)
  have hyj := yT_j v hjT
  have hk : ∀ i, i < 5 → T.testBit i = true → a5 (fun c => v i c * yT v T j c) = 0 := fun i hi hiT => by
    have := yT_k v (j := j) hT (by omega) hiT
    rw [dt_a5, hy5, Int.mul_zero, Int.add_zero] at this
    exact this
  have h1 : ∀ c, c < 5 → 0 ≤ (fun c => if c = j then 0 else yT v T j c) c := by
    refine mp h (T := T) ?_ ?_
    · intro c hc hcT
      show 0 ≤ if c = j then 0 else yT v T j c
      split
      · exact Int.le_refl 0
      · rename_i e
        rw [yT_o v hcT e]; exact Int.le_refl 0
    · intro i hi hiT
      have e1 := hk i hi hiT
      rw [a5_one (f := fun c => v i c * yT v T j c) hj, hyj] at e1
      have hij : i ≠ j := fun e => by subst e; rw [hjT] at hiT; cases hiT
      have h2 := nnp (h.1 i j hi hj hij) (Int.le_of_lt hP)
      have e2 : a5 (fun c => v i c * (fun c => if c = j then 0 else yT v T j c) c) = a5 (fun c => if c = j then 0 else v i c * yT v T j c) := a5_c (fun c hc => by
        show v i c * (if c = j then 0 else yT v T j c) = _
        split
        · exact Int.mul_zero _
        · rfl)
      rw [e2]
      omega
  have h2 : ∀ c, c < 5 → 0 ≤ (fun c => PT v T - yT v T j c) c := by
    refine mp h (T := T) ?_ ?_
    · intro c hc hcT
      show 0 ≤ PT v T - yT v T j c
      by_cases e : c = j
      · subst e; rw [hyj]; omega
      · rw [yT_o v hcT e]; omega
    · intro i hi hiT
      have e1 := hk i hi hiT
      have e2 : a5 (fun c => v i c * (fun c => PT v T - yT v T j c) c) = a5 (v i) * PT v T - a5 (fun c => v i c * yT v T j c) := by
        simp only [a5]
        simp only [Int.mul_sub, Int.add_mul]
        omega
      rw [e2, e1]
      have := Int.mul_nonneg (h.2.2.1 i hi) (Int.le_of_lt hP)
      omega
  intro c hc
  have h3 := h1 c hc
  have h4 := h2 c hc
  have h4 : 0 ≤ PT v T - yT v T j c := h4
  by_cases e : c = j
  · subst e; rw [hyj]; omega
  · have h3 : 0 ≤ if c = j then 0 else yT v T j c := h3
    rw [if_neg e] at h3
    omega
/-- a row behind a set: above 0 at its own place, and no more than its own number times the minor -/
theorem yT_pos (h : MM v) (hT : T < 32) (hj : j < 5) (hjT : T.testBit j = false) (hP : 0 < PT v T) : 0 < dt (v j) (yT v T j) ∧ dt (v j) (yT v T j) ≤ v j j * PT v T := by
  have hy5 : yT v T j 5 = 0 := yT_o v (tbT hT (by omega)) (by omega)
  have hyj := yT_j v hjT
  have hin := yT_in h hT hj hjT hP
  constructor
  · rcases Int.lt_or_le 0 (dt (v j) (yT v T j)) with h1 | h1
    · exact h1
    exfalso
    have h2 : ∀ c, c < 5 → 0 ≤ (fun c => - yT v T j c) c := by
      refine mp h (T := T ^^^ 2 ^ j) ?_ ?_
      · intro c hc hcT
        rw [tb_xor] at hcT
        have e : c ≠ j := fun e => by subst e; rw [hjT, decide_eq_true rfl] at hcT; cases hcT
        have e2 : T.testBit c = false := by
          rw [decide_eq_false (fun e' => e e'.symm), Bool.xor_false] at hcT
          exact hcT
        show 0 ≤ - yT v T j c
        rw [yT_o v e2 e]
        omega
      · intro i hi hiT
        have e2 : a5 (fun c => v i c * (fun c => - yT v T j c) c) = - a5 (fun c => v i c * yT v T j c) := by
          simp only [a5]
          simp only [Int.mul_neg]
          omega
        rw [e2]
        by_cases e : i = j
        · subst e
          rw [dt_a5, hy5, Int.mul_zero, Int.add_zero] at h1
          omega
        · rw [tb_xor, decide_eq_false (fun e' => e e'.symm), Bool.xor_false] at hiT
          have := yT_k v (j := j) hT (by omega) hiT
          rw [dt_a5, hy5, Int.mul_zero, Int.add_zero] at this
          omega
    have h3 : 0 ≤ - yT v T j j := h2 j hj
    rw [hyj] at h3
    omega
  · rw [dt_a5, hy5, Int.mul_zero, Int.add_zero, a5_one hj, hyj]
    have : a5 (fun c => if c = j then 0 else v j c * yT v T j c) ≤ 0 := a5_le (fun c hc => by
      show (if c = j then 0 else v j c * yT v T j c) ≤ 0
      split
      · exact Int.le_refl 0
      · rename_i e
        exact nnp (h.1 j c hj hc (fun e' => e e'.symm)) (hin c hc).1)
    omega
end YY
/-- every minor of a set is above 0, and no more than the product of its numbers -/
def prT (a : Nat → Int) (T : Nat) : Int := (if T.testBit 0 then a 0 else 1) * ((if T.testBit 1 then a 1 else 1) * ((if T.testBit 2 then a 2 else 1) * ((if T.testBit 3 then a 3 else 1) * (if T.testBit 4 then a 4 else 1))))
theorem prT_top (a : Nat → Int) {T m : Nat} (hm : m < 5) (h : T.testBit m = false) : prT a (T ^^^ 2 ^ m) = a m * prT a T := by
  unfold prT
  simp only [tb_xor]
  rcases (by omega : m = 0 ∨ m = 1 ∨ m = 2 ∨ m = 3 ∨ m = 4) with rfl | rfl | rfl | rfl | rfl <;> simp only [h, decide_eq_true_eq, Nat.reduceEqDiff, decide_true, decide_false, Bool.xor_false, Bool.false_xor, Bool.true_xor, Bool.xor_true, Bool.not_false, if_true, if_false, reduceIte, Bool.false_eq_true, Int.one_mul, Int.mul_one, Int.mul_left_comm, Int.mul_comm, Int.mul_assoc]
theorem PT_pos {v : Nat → Nat → Int} (h : MM v) : ∀ n T, T ≤ n → T < 32 → 0 < PT v T ∧ PT v T ≤ prT (fun i => v i i) T
  | n, 0, _, _ => ⟨by show (0 : Int) < 1; omega, by show (1 : Int) ≤ 1 * (1 * (1 * (1 * 1))); omega⟩
  | 0, T + 1, h1, _ => absurd h1 (by omega)
  | n + 1, T + 1, h1, h2 => by
    obtain ⟨m, m1, m2, m3, m4, m5, m6, m7⟩ := WT_top v (T + 1) h2 (by omega)
    have h3 := PT_pos h n ((T + 1) ^^^ 2 ^ m) (by omega) (by omega)
    have h4 := yT_pos h (T := (T + 1) ^^^ 2 ^ m) (j := m) (by omega) m1 m4 h3.1
    rw [PT_top v m5 m6 m7]
    refine ⟨h4.1, Int.le_trans h4.2 ?_⟩
    have h5 : 0 < v m m := by
      rcases Int.lt_or_le 0 (v m m) with h6 | h6
      · exact h6
      · exfalso
        have := nnp h6 (Int.le_of_lt h3.1)
        omega
    have h6 := prT_top (fun i => v i i) m1 m4
    rw [m6] at h6
    rw [h6]
    exact Int.mul_le_mul_of_nonneg_left h3.2 (Int.le_of_lt h5)
