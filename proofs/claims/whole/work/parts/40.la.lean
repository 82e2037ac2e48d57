/-! ===== linear algebra: six columns, no division ===== -/
def s6 (f : Nat → Int) : Int := f 0 + f 1 + f 2 + f 3 + f 4 + f 5
theorem s6_c {f g : Nat → Int} (h : ∀ c, c < 6 → f c = g c) : s6 f = s6 g := by
  simp only [s6]
  rw [h 0 (by omega), h 1 (by omega), h 2 (by omega), h 3 (by omega), h 4 (by omega), h 5 (by omega)]
theorem s6_mul (a : Int) (f : Nat → Int) : a * s6 f = s6 (fun c => a * f c) := by
  simp only [s6]
  simp only [Int.mul_add]
theorem s6_add (f g : Nat → Int) : s6 f + s6 g = s6 (fun c => f c + g c) := by
  simp only [s6]
  omega
theorem s6_0 {f : Nat → Int} (h : ∀ c, c < 6 → f c = 0) : s6 f = 0 := by
  rw [s6_c (g := fun _ => 0) h]; rfl
theorem s6_neg (f : Nat → Int) : s6 (fun c => - f c) = - s6 f := by
  simp only [s6]
  omega
theorem s6_swap (f : Nat → Nat → Int) : s6 (fun c => s6 (fun d => f c d)) = s6 (fun d => s6 (fun c => f c d)) := by
  simp only [s6]
  omega
theorem xrc (a b c : Nat) : a ^^^ b ^^^ c = a ^^^ c ^^^ b := by rw [Nat.xor_assoc, Nat.xor_comm b c, ← Nat.xor_assoc]
def par (S : Nat) : Bool := xor (xor (xor (S.testBit 0) (S.testBit 1)) (xor (S.testBit 2) (S.testBit 3))) (xor (S.testBit 4) (S.testBit 5))
/-- the sign of a column in a set: by how many stand behind it -/
def sg (S c : Nat) : Int := if par (S >>> (c + 1)) then -1 else 1
def wd (X : Nat → Int) (v : Nat → Int) (S : Nat) : Int := s6 (fun c => if S.testBit c then sg S c * v c * X (S ^^^ 2 ^ c) else 0)
def tS (S c d : Nat) : Int := if S.testBit c && (S ^^^ 2 ^ c).testBit d then sg S c * sg (S ^^^ 2 ^ c) d else 0
theorem tS_anti : ∀ S, S < 64 → ∀ c, c < 6 → ∀ d, d < 6 → tS S c d = - tS S d c := by decide +kernel
theorem xor_lt {S c : Nat} (hS : S < 64) (hc : c < 6) : S ^^^ 2 ^ c < 64 := by
  have h : 2 ^ c < 2 ^ 6 := Nat.pow_lt_pow_right (by omega) hc
  exact Nat.xor_lt_two_pow (n := 6) hS h
theorem wd_wd (X u v : Nat → Int) (S : Nat) : wd (wd X u) v S = s6 (fun c => s6 (fun d => tS S c d * (v c * u d * X (S ^^^ 2 ^ c ^^^ 2 ^ d)))) := by
  unfold wd
  apply s6_c
  intro c hc
  by_cases h : S.testBit c
  · rw [if_pos h, s6_mul]
    apply s6_c
    intro d hd
    unfold tS
    rw [h, Bool.true_and]
    by_cases h2 : (S ^^^ 2 ^ c).testBit d
    · rw [if_pos h2, if_pos h2]
      simp only [Int.mul_assoc, Int.mul_left_comm, Int.mul_comm]
    · rw [if_neg h2, if_neg h2, Int.mul_zero, Int.zero_mul]
  · rw [if_neg h]
    symm
    apply s6_0
    intro d hd
    unfold tS
    rw [if_neg (by rw [Bool.and_eq_true]; exact fun h2 => h h2.1), Int.zero_mul]
/-- two vectors joined in either order -/
theorem wd_anti (X u v : Nat → Int) {S : Nat} (hS : S < 64) : wd (wd X u) v S = - wd (wd X v) u S := by
  rw [wd_wd, wd_wd, s6_swap (fun c d => tS S c d * (u c * v d * X (S ^^^ 2 ^ c ^^^ 2 ^ d))), ← s6_neg]
  apply s6_c
  intro c hc
  rw [← s6_neg]
  apply s6_c
  intro d hd
  rw [tS_anti S hS c hc d hd, Int.neg_mul, xrc S (2 ^ c) (2 ^ d), Int.mul_comm (v c) (u d)]
theorem wd_0 {X : Nat → Int} (hX : ∀ S, S < 64 → X S = 0) (v : Nat → Int) {S : Nat} (hS : S < 64) : wd X v S = 0 := by
  unfold wd
  apply s6_0
  intro c hc
  split
  · rw [hX _ (xor_lt hS hc), Int.mul_zero]
  · rfl
theorem wd_self (X v : Nat → Int) {S : Nat} (hS : S < 64) : wd (wd X v) v S = 0 := by
  have := wd_anti X v v hS
  omega
theorem wd_step {X v : Nat → Int} (h : ∀ S, S < 64 → wd X v S = 0) (u : Nat → Int) {S : Nat} (hS : S < 64) : wd (wd X u) v S = 0 := by
  rw [wd_anti X u v hS, wd_0 h u hS]
  rfl
/-- the rows of a set, joined, up to a number -/
def WTm (v : Nat → Nat → Int) (T : Nat) : Nat → Nat → Int
  | 0 => fun S => if S = 0 then 1 else 0
  | k + 1 => if T.testBit k then wd (WTm v T k) (v k) else WTm v T k
theorem ker_WT (v : Nat → Nat → Int) (T : Nat) {i : Nat} (hi : T.testBit i = true) : ∀ k, i < k → ∀ S, S < 64 → wd (WTm v T k) (v i) S = 0
  | 0, h => absurd h (by omega)
  | k + 1, h => fun S hS => by
    unfold WTm
    by_cases e : i = k
    · subst e
      rw [if_pos hi]
      exact wd_self _ _ hS
    · split
      · exact wd_step (ker_WT v T hi k (by omega)) _ hS
      · exact ker_WT v T hi k (by omega) S hS
/-- the minor of a set of rows and columns -/
def PT (v : Nat → Nat → Int) (T : Nat) : Int := WTm v T 5 T
def dt (v y : Nat → Int) : Int := s6 (fun c => v c * y c)
def yT (v : Nat → Nat → Int) (T j : Nat) : Nat → Int := fun c => if (T ^^^ 2 ^ j).testBit c then sg (T ^^^ 2 ^ j) j * sg (T ^^^ 2 ^ j) c * WTm v T 5 (T ^^^ 2 ^ j ^^^ 2 ^ c) else 0
theorem sg_sq (S c : Nat) : sg S c * sg S c = 1 := by
  unfold sg
  split <;> rfl
theorem tb_xor {T j c : Nat} : (T ^^^ 2 ^ j).testBit c = xor (T.testBit c) (decide (j = c)) := by
  rw [Nat.testBit_xor, Nat.testBit_two_pow]
theorem yT_j (v : Nat → Nat → Int) {T j : Nat} (hj : T.testBit j = false) : yT v T j j = PT v T := by
  unfold yT PT
  rw [tb_xor, hj, decide_eq_true rfl, Bool.false_xor, if_pos rfl, sg_sq, Int.one_mul, Nat.xor_assoc, Nat.xor_self, Nat.xor_zero]
theorem yT_o (v : Nat → Nat → Int) {T j c : Nat} (hc : T.testBit c = false) (h : c ≠ j) : yT v T j c = 0 := by
  unfold yT
  rw [tb_xor, hc, decide_eq_false (fun e => h e.symm), Bool.false_xor, if_neg (by decide)]
theorem yT_dt (v : Nat → Nat → Int) (T j : Nat) (u : Nat → Int) : dt u (yT v T j) = sg (T ^^^ 2 ^ j) j * wd (WTm v T 5) u (T ^^^ 2 ^ j) := by
  unfold dt wd
  rw [s6_mul]
  apply s6_c
  intro c hc
  unfold yT
  by_cases h : (T ^^^ 2 ^ j).testBit c
  · rw [if_pos h, if_pos h]
    simp only [Int.mul_assoc, Int.mul_left_comm, Int.mul_comm]
  · rw [if_neg h, if_neg h, Int.mul_zero, Int.mul_zero]
theorem yT_k (v : Nat → Nat → Int) {T j i : Nat} (hT : T < 32) (hj : j < 6) (hi : T.testBit i = true) : dt (v i) (yT v T j) = 0 := by
  have h5 : i < 5 := by
    rcases Nat.lt_or_ge i 5 with h | h
    · exact h
    · rw [Nat.testBit_lt_two_pow (Nat.lt_of_lt_of_le hT (by have := Nat.pow_le_pow_right (n := 2) (by omega) h; omega))] at hi
      cases hi
  rw [yT_dt, ker_WT v T hi 5 h5 _ (xor_lt (by omega) hj), Int.mul_zero]
/-- the last row of a set split off -/
theorem WT_top (v : Nat → Nat → Int) : ∀ T, T < 32 → 0 < T → ∃ m, m < 5 ∧ T.testBit m = true ∧ (T ^^^ 2 ^ m) < T ∧ (T ^^^ 2 ^ m).testBit m = false ∧ sg T m = 1 ∧ T ^^^ 2 ^ m ^^^ 2 ^ m = T ∧ WTm v T 5 = wd (WTm v (T ^^^ 2 ^ m) 5) (v m)
  | 0, _, h => absurd h (by omega)
  | 1, _, _ => ⟨0, by decide, by decide, by decide, by decide, by decide, by decide, rfl⟩
  | 2, _, _ => ⟨1, by decide, by decide, by decide, by decide, by decide, by decide, rfl⟩
  | 3, _, _ => ⟨1, by decide, by decide, by decide, by decide, by decide, by decide, rfl⟩
  | 4, _, _ => ⟨2, by decide, by decide, by decide, by decide, by decide, by decide, rfl⟩
  | 5, _, _ => ⟨2, by decide, by decide, by decide, by decide, by decide, by decide, rfl⟩
  | 6, _, _ => ⟨2, by decide, by decide, by decide, by decide, by decide, by decide, rfl⟩
  | 7, _, _ => ⟨2, by decide, by decide, by decide, by decide, by decide, by decide, rfl⟩
  | 8, _, _ => ⟨3, by decide, by decide, by decide, by decide, by decide, by decide, rfl⟩
  | 9, _, _ => ⟨3, by decide, by decide, by decide, by decide, by decide, by decide, rfl⟩
  | 10, _, _ => ⟨3, by decide, by decide, by decide, by decide, by decide, by decide, rfl⟩
  | 11, _, _ => ⟨3, by decide, by decide, by decide, by decide, by decide, by decide, rfl⟩
  | 12, _, _ => ⟨3, by decide, by decide, by decide, by decide, by decide, by decide, rfl⟩
  | 13, _, _ => ⟨3, by decide, by decide, by decide, by decide, by decide, by decide, rfl⟩
  | 14, _, _ => ⟨3, by decide, by decide, by decide, by decide, by decide, by decide, rfl⟩
  | 15, _, _ => ⟨3, by decide, by decide, by decide, by decide, by decide, by decide, rfl⟩
  | 16, _, _ => ⟨4, by decide, by decide, by decide, by decide, by decide, by decide, rfl⟩
  | 17, _, _ => ⟨4, by decide, by decide, by decide, by decide, by decide, by decide, rfl⟩
  | 18, _, _ => ⟨4, by decide, by decide, by decide, by decide, by decide, by decide, rfl⟩
  | 19, _, _ => ⟨4, by decide, by decide, by decide, by decide, by decide, by decide, rfl⟩
  | 20, _, _ => ⟨4, by decide, by decide, by decide, by decide, by decide, by decide, rfl⟩
  | 21, _, _ => ⟨4, by decide, by decide, by decide, by decide, by decide, by decide, rfl⟩
  | 22, _, _ => ⟨4, by decide, by decide, by decide, by decide, by decide, by decide, rfl⟩
  | 23, _, _ => ⟨4, by decide, by decide, by decide, by decide, by decide, by decide, rfl⟩
  | 24, _, _ => ⟨4, by decide, by decide, by decide, by decide, by decide, by decide, rfl⟩
  | 25, _, _ => ⟨4, by decide, by decide, by decide, by decide, by decide, by decide, rfl⟩
  | 26, _, _ => ⟨4, by decide, by decide, by decide, by decide, by decide, by decide, rfl⟩
  | 27, _, _ => ⟨4, by decide, by decide, by decide, by decide, by decide, by decide, rfl⟩
  | 28, _, _ => ⟨4, by decide, by decide, by decide, by decide, by decide, by decide, rfl⟩
  | 29, _, _ => ⟨4, by decide, by decide, by decide, by decide, by decide, by decide, rfl⟩
  | 30, _, _ => ⟨4, by decide, by decide, by decide, by decide, by decide, by decide, rfl⟩
  | 31, _, _ => ⟨4, by decide, by decide, by decide, by decide, by decide, by decide, rfl⟩
  | n + 32, h, _ => absurd h (by omega)
theorem PT_top (v : Nat → Nat → Int) {T m : Nat} (h1 : sg T m = 1) (h2 : T ^^^ 2 ^ m ^^^ 2 ^ m = T) (h3 : WTm v T 5 = wd (WTm v (T ^^^ 2 ^ m) 5) (v m)) : PT v T = dt (v m) (yT v (T ^^^ 2 ^ m) m) := by
  rw [yT_dt, h2, h1, Int.one_mul, ← h3]
  rfl
