/-! ===== pure toolbox ===== -/
theorem sR_1 (σ : Hp) (k a : Nat) (f : Nat → Int32) : (sR σ k f).1 a = if a = k then f else σ.1 a := rfl
theorem sR_2 (σ : Hp) (k : Nat) (f : Nat → Int32) : (sR σ k f).2 = σ.2 := rfl
theorem sI_1 (σ : Hp) (k j a : Nat) (v : Int32) : (sI σ k j v).1 a = if a = k then upd (σ.1 k) j v else σ.1 a := rfl
theorem sI_2 (σ : Hp) (k j : Nat) (v : Int32) : (sI σ k j v).2 = σ.2 := rfl
theorem sL_1 (σ : Hp) (k : Nat) (f : Nat → Int64) : (sL σ k f).1 = σ.1 := rfl
theorem sL_2 (σ : Hp) (k a : Nat) (f : Nat → Int64) : (sL σ k f).2 a = if a = k then f else σ.2 a := rfl
theorem sJ_1 (σ : Hp) (k j : Nat) (v : Int64) : (sJ σ k j v).1 = σ.1 := rfl
theorem sJ_2 (σ : Hp) (k j a : Nat) (v : Int64) : (sJ σ k j v).2 a = if a = k then vp_updL (σ.2 k) j v else σ.2 a := rfl
theorem upd_at (f : Nat → Int32) (k j : Nat) (x : Int32) : upd f k x j = if j = k then x else f j := rfl
theorem i32_lt (a b : Int32) : a < b ↔ a.toInt < b.toInt := Int32.lt_iff_toInt_lt
theorem i32_le (a b : Int32) : a ≤ b ↔ a.toInt ≤ b.toInt := Int32.le_iff_toInt_le
theorem i32_eq (a b : Int32) : a = b ↔ a.toInt = b.toInt := Int32.toInt_inj.symm
theorem i32_bd (a : Int32) : -2147483648 ≤ a.toInt ∧ a.toInt < 2147483648 := ⟨Int32.le_toInt a, Int32.toInt_lt a⟩
theorem clampI {a : Int32} (h : 0 ≤ a.toInt) : (a.toNatClampNeg : Int) = a.toInt := by
  show ((a.toInt.toNat : Nat) : Int) = _
  omega
theorem inB {a : Int32} {n : Nat} (h0 : 0 ≤ a.toInt) (h : a.toInt < n) : ¬ (a < 0 ∨ n ≤ a.toNatClampNeg) := by
  have h1 := clampI h0
  rintro (h2 | h2)
  · rw [i32_lt] at h2
    have : (0 : Int32).toInt = 0 := rfl
    omega
  · omega
theorem ldI_ok {α : Type} {σ : Hp} {k n : Nat} {i : Int32} {f : Int32 → Option α} (h0 : 0 ≤ i.toInt) (h : i.toInt < n) : ldI σ k n i f = f (σ.1 k i.toNatClampNeg) := if_neg (inB h0 h)
theorem ldJ_ok {α : Type} {σ : Hp} {k n : Nat} {i : Int32} {f : Int64 → Option α} (h0 : 0 ≤ i.toInt) (h : i.toInt < n) : ldJ σ k n i f = f (σ.2 k i.toNatClampNeg) := if_neg (inB h0 h)
theorem stI_ok {α : Type} {σ : Hp} {k n : Nat} {i v : Int32} {f : Hp → Option α} (h0 : 0 ≤ i.toInt) (h : i.toInt < n) : stI σ k n i v f = f (sI σ k i.toNatClampNeg v) := if_neg (inB h0 h)
theorem stZ_ok {α : Type} {σ : Hp} {k n : Nat} {i v : Int32} {f : Hp → Option α} (h0 : 0 ≤ i.toInt) (h : i.toInt < n) : stZ σ k n i v f = f (sI σ k i.toNatClampNeg (vp_nar .boolean v)) := if_neg (inB h0 h)
theorem stJ_ok {α : Type} {σ : Hp} {k n : Nat} {i : Int32} {v : Int64} {f : Hp → Option α} (h0 : 0 ≤ i.toInt) (h : i.toInt < n) : stJ σ k n i v f = f (sJ σ k i.toNatClampNeg v) := if_neg (inB h0 h)
theorem bmI {x : Int} (h1 : -2147483648 ≤ x) (h2 : x < 2147483648) : x.bmod (2 ^ 32) = x := by
  rw [Int.bmod_def]
  have : (2 ^ 32 : Nat) = 4294967296 := rfl
  simp only [this]
  omega
theorem addI {a b : Int32} (h1 : -2147483648 ≤ a.toInt + b.toInt) (h2 : a.toInt + b.toInt < 2147483648) : (a + b).toInt = a.toInt + b.toInt := by rw [Int32.toInt_add, bmI h1 h2]
theorem subI {a b : Int32} (h1 : -2147483648 ≤ a.toInt - b.toInt) (h2 : a.toInt - b.toInt < 2147483648) : (a - b).toInt = a.toInt - b.toInt := by rw [Int32.toInt_sub, bmI h1 h2]
theorem mulI {a b : Int32} (h1 : -2147483648 ≤ a.toInt * b.toInt) (h2 : a.toInt * b.toInt < 2147483648) : (a * b).toInt = a.toInt * b.toInt := by rw [Int32.toInt_mul, bmI h1 h2]
theorem ckZ_1 {α : Type} (x : Option α) : ckZ 1 x = x := rfl
theorem ckZ_0 {α : Type} (x : Option α) : ckZ 0 x = x := rfl
theorem jn_e {α β : Type} (A : β → Option α) (F : (β → Option α) → Option α) : jn A F = F A := rfl
theorem lt_e {α β : Type} (e : β) (f : β → Option α) : lt e f = f e := rfl
theorem cr_s {α ρ : Type} (x : ρ) (f : ρ → Option α) : cr (some x) f = f x := rfl
theorem cl_s {α ρ : Type} (x : ρ) (σ : Hp) (f : ρ → Hp → Option α) : cl (some (x, σ)) f = f x σ := rfl
/-! closed forms of the small methods -/
theorem e_within (a b : Int32) : f_X11_within a b = some (if 0 ≤ a.toInt ∧ a.toInt < b.toInt then 1 else 0) := by
  have h0 : (0 : Int32).toInt = 0 := rfl
  unfold f_X11_within f_X11_within_j14 f_X11_within_j13
  simp only [jn_e, i32_lt, i32_le, h0]
  by_cases h1 : a.toInt < 0
  · rw [if_pos h1, if_neg (by omega)]; rfl
  · by_cases h2 : b.toInt ≤ a.toInt
    · rw [if_neg h1, if_pos h2, if_neg (by omega)]; rfl
    · rw [if_neg h1, if_neg h2, if_pos (by omega)]; rfl
theorem e_isGas (a : Int32) : f_X12_isGas a = some (if 0 ≤ a.toInt ∧ a.toInt < 3 then 1 else 0) := by
  have h0 : (0 : Int32).toInt = 0 := rfl
  have h3 : (3 : Int32).toInt = 3 := rfl
  unfold f_X12_isGas f_X12_isGas_j14 f_X12_isGas_j13
  simp only [jn_e, i32_lt, i32_le, h0, h3]
  by_cases h1 : a.toInt < 0
  · rw [if_pos h1, if_neg (by omega)]; rfl
  · by_cases h2 : 3 ≤ a.toInt
    · rw [if_neg h1, if_pos h2, if_neg (by omega)]; rfl
    · rw [if_neg h1, if_neg h2, if_pos (by omega)]; rfl
theorem i64_lt (a b : Int64) : a < b ↔ a.toInt < b.toInt := Int64.lt_iff_toInt_lt
theorem i64_le (a b : Int64) : a ≤ b ↔ a.toInt ≤ b.toInt := Int64.le_iff_toInt_le
theorem i64_of (a : Int32) : a.toInt64.toInt = a.toInt := Int32.toInt_toInt64 a
theorem e_isIn (v lo hi : Int64) : f_X12_isIn v lo hi = some (if lo.toInt ≤ v.toInt ∧ v.toInt ≤ hi.toInt then 1 else 0) := by
  unfold f_X12_isIn f_X12_isIn_j18 f_X12_isIn_j17
  simp only [jn_e, lg_cmp_lt, lg_cmp_gt, i64_lt]
  by_cases h1 : v.toInt < lo.toInt
  · rw [if_pos h1, if_neg (by omega)]; rfl
  · by_cases h2 : hi.toInt < v.toInt
    · rw [if_neg h1, if_pos h2, if_neg (by omega)]; rfl
    · rw [if_neg h1, if_neg h2, if_pos (by omega)]; rfl
theorem e_out (v lo hi : Int64) : f_X12_out v lo hi = some (if v.toInt < lo.toInt then -4 else if hi.toInt < v.toInt then -6 else 0) := by
  unfold f_X12_out f_X12_out_j24
  simp only [jn_e, lg_cmp_ge, lg_cmp_le, i64_le]
  by_cases h1 : lo.toInt ≤ v.toInt
  · by_cases h2 : v.toInt ≤ hi.toInt
    · rw [if_pos h1, if_pos h2, if_neg (by omega), if_neg (by omega)]
    · rw [if_pos h1, if_neg h2, if_neg (by omega), if_pos (by omega)]
  · rw [if_neg h1, if_pos (by omega)]
def rfC (k : Nat) (σ : Hp) : Hp := sI σ 85 k (σ.1 85 k + 1)
def rfM (k : Nat) (τ : Hp) : Hp := sI τ 87 k (τ.1 87 k + 1)
theorem e_refuse1 (σ : Hp) : f_X11_refuse (-1) σ = some (-1, rfC 1 σ) := rfl
theorem e_refuse2 (σ : Hp) : f_X11_refuse (-2) σ = some (-2, rfC 2 σ) := rfl
theorem e_refuse3 (σ : Hp) : f_X11_refuse (-3) σ = some (-3, rfC 3 σ) := rfl
theorem e_refuse4 (σ : Hp) : f_X11_refuse (-4) σ = some (-4, rfC 4 σ) := rfl
theorem e_refuse6 (σ : Hp) : f_X11_refuse (-6) σ = some (-6, rfC 6 σ) := rfl
theorem e_refuse7 (σ : Hp) : f_X11_refuse (-7) σ = some (-7, rfC 7 σ) := rfl
theorem e_no1 (τ : Hp) : f_X12_no (-1) τ = some (-1, rfM 1 τ) := rfl
theorem e_no2 (τ : Hp) : f_X12_no (-2) τ = some (-2, rfM 2 τ) := rfl
theorem e_no3 (τ : Hp) : f_X12_no (-3) τ = some (-3, rfM 3 τ) := rfl
theorem e_no4 (τ : Hp) : f_X12_no (-4) τ = some (-4, rfM 4 τ) := rfl
theorem e_no6 (τ : Hp) : f_X12_no (-6) τ = some (-6, rfM 6 τ) := rfl
theorem e_no7 (τ : Hp) : f_X12_no (-7) τ = some (-7, rfM 7 τ) := rfl
/-- the class's refusal: the first that fits -/
theorem e_refusal (a b c d : Int32) (σ : Hp) : f_X11_refusal a b c d σ = some (if a = 0 then if b = 0 then if c = 0 then if d = 0 then (0, σ) else (-6, rfC 6 σ) else (-4, rfC 4 σ) else (-2, rfC 2 σ) else (-1, rfC 1 σ)) := by
  unfold f_X11_refusal f_X11_refusal_j47
  simp only [jn_e, e_refuse1, e_refuse2, e_refuse4, e_refuse6, cl_s]
  by_cases h1 : a = 0 <;> by_cases h2 : b = 0 <;> by_cases h3 : c = 0 <;> by_cases h4 : d = 0 <;> simp [h1, h2, h3, h4]
