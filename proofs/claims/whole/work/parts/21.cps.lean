/-! ===== the small methods, continuation pushed inside ===== -/
section CPS
variable {α : Type}
theorem cr_if {ρ : Type} {P : Prop} [Decidable P] (x y : ρ) (f : ρ → Option α) : cr (some (if P then x else y)) f = if P then f x else f y := by
  by_cases h : P <;> simp [h, cr_s]
theorem k_within (a b : Int32) (f : Int32 → Option α) : cr (f_X11_within a b) f = if 0 ≤ a.toInt ∧ a.toInt < b.toInt then f 1 else f 0 := by rw [e_within, cr_if]
theorem k_isGas (a : Int32) (f : Int32 → Option α) : cr (f_X12_isGas a) f = if 0 ≤ a.toInt ∧ a.toInt < 3 then f 1 else f 0 := by rw [e_isGas, cr_if]
theorem k_isIn (a : Int32) (lo hi : Int64) (f : Int32 → Option α) : cr (f_X12_isIn a.toInt64 lo hi) f = if lo.toInt ≤ a.toInt ∧ a.toInt < hi.toInt + 1 then f 1 else f 0 := by
  rw [e_isIn, cr_if, i64_of]
  by_cases h : lo.toInt ≤ a.toInt ∧ a.toInt ≤ hi.toInt
  · rw [if_pos h, if_pos (by omega)]
  · rw [if_neg h, if_neg (by omega)]
theorem k_out (a : Int32) (lo hi : Int64) (f : Int32 → Option α) : cr (f_X12_out a.toInt64 lo hi) f = if a.toInt < lo.toInt then f (-4) else if hi.toInt < a.toInt then f (-6) else f 0 := by
  rw [e_out, i64_of]
  by_cases h : a.toInt < lo.toInt
  · simp [h, cr_s]
  · by_cases h2 : hi.toInt < a.toInt <;> simp [h, h2, cr_s]
theorem e_isRoom (a : Int32) (τ : Hp) : f_X12_isRoom a τ = some (if 0 ≤ a.toInt ∧ a.toInt < (τ.1 86 20).toInt then 1 else 0) := by
  unfold f_X12_isRoom f_X12_isRoom_j17 f_X12_isRoom_j16
  simp only [jn_e, i32_lt, i32_le, show (0 : Int32).toInt = 0 from rfl]
  by_cases h1 : a.toInt < 0
  · rw [if_pos h1, if_neg (by omega)]; rfl
  · by_cases h2 : (τ.1 86 20).toInt ≤ a.toInt
    · rw [if_neg h1, if_pos h2, if_neg (by omega)]; rfl
    · rw [if_neg h1, if_neg h2, if_pos (by omega)]; rfl
theorem e_isPipe (a : Int32) (τ : Hp) : f_X12_isPipe a τ = some (if 0 ≤ a.toInt ∧ a.toInt < (τ.1 86 21).toInt then 1 else 0) := by
  unfold f_X12_isPipe f_X12_isPipe_j17 f_X12_isPipe_j16
  simp only [jn_e, i32_lt, i32_le, show (0 : Int32).toInt = 0 from rfl]
  by_cases h1 : a.toInt < 0
  · rw [if_pos h1, if_neg (by omega)]; rfl
  · by_cases h2 : (τ.1 86 21).toInt ≤ a.toInt
    · rw [if_neg h1, if_pos h2, if_neg (by omega)]; rfl
    · rw [if_neg h1, if_neg h2, if_pos (by omega)]; rfl
theorem e_isPump (a : Int32) (τ : Hp) : f_X12_isPump a τ = some (if 0 ≤ a.toInt ∧ a.toInt < (τ.1 86 22).toInt then 1 else 0) := by
  unfold f_X12_isPump f_X12_isPump_j17 f_X12_isPump_j16
  simp only [jn_e, i32_lt, i32_le, show (0 : Int32).toInt = 0 from rfl]
  by_cases h1 : a.toInt < 0
  · rw [if_pos h1, if_neg (by omega)]; rfl
  · by_cases h2 : (τ.1 86 22).toInt ≤ a.toInt
    · rw [if_neg h1, if_pos h2, if_neg (by omega)]; rfl
    · rw [if_neg h1, if_neg h2, if_pos (by omega)]; rfl
theorem k_isRoom (a : Int32) (τ : Hp) (f : Int32 → Option α) : cr (f_X12_isRoom a τ) f = if 0 ≤ a.toInt ∧ a.toInt < (τ.1 86 20).toInt then f 1 else f 0 := by rw [e_isRoom, cr_if]
theorem k_isPipe (a : Int32) (τ : Hp) (f : Int32 → Option α) : cr (f_X12_isPipe a τ) f = if 0 ≤ a.toInt ∧ a.toInt < (τ.1 86 21).toInt then f 1 else f 0 := by rw [e_isPipe, cr_if]
theorem k_isPump (a : Int32) (τ : Hp) (f : Int32 → Option α) : cr (f_X12_isPump a τ) f = if 0 ≤ a.toInt ∧ a.toInt < (τ.1 86 22).toInt then f 1 else f 0 := by rw [e_isPump, cr_if]
theorem rf_1 (b c d : Int32) (σ : Hp) : f_X11_refusal 1 b c d σ = some (-1, rfC 1 σ) := by rw [e_refusal, if_neg (by decide)]
theorem rf_2 (c d : Int32) (σ : Hp) : f_X11_refusal 0 1 c d σ = some (-2, rfC 2 σ) := by rw [e_refusal, if_pos rfl, if_neg (by decide)]
theorem rf_4 (d : Int32) (σ : Hp) : f_X11_refusal 0 0 1 d σ = some (-4, rfC 4 σ) := by rw [e_refusal, if_pos rfl, if_pos rfl, if_neg (by decide)]
theorem rf_6 (σ : Hp) : f_X11_refusal 0 0 0 1 σ = some (-6, rfC 6 σ) := by rw [e_refusal, if_pos rfl, if_pos rfl, if_pos rfl, if_neg (by decide)]
theorem rf_0 (σ : Hp) : f_X11_refusal 0 0 0 0 σ = some (0, σ) := by rw [e_refusal, if_pos rfl, if_pos rfl, if_pos rfl, if_pos rfl]
theorem n1z {β : Sort _} (x y : β) : (if (-1 : Int32) = 0 then x else y) = y := if_neg (by decide)
theorem n2z {β : Sort _} (x y : β) : (if (-2 : Int32) = 0 then x else y) = y := if_neg (by decide)
theorem n3z {β : Sort _} (x y : β) : (if (-3 : Int32) = 0 then x else y) = y := if_neg (by decide)
theorem n4z {β : Sort _} (x y : β) : (if (-4 : Int32) = 0 then x else y) = y := if_neg (by decide)
theorem n6z {β : Sort _} (x y : β) : (if (-6 : Int32) = 0 then x else y) = y := if_neg (by decide)
theorem z0z {β : Sort _} (x y : β) : (if (0 : Int32) = 0 then x else y) = x := if_pos rfl
theorem z1z {β : Sort _} (x y : β) : (if (1 : Int32) = 0 then x else y) = y := if_neg (by decide)
end CPS
/-! literals -/
theorem l_0 : (0 : Int32).toInt = 0 := by decide +kernel
theorem l_1 : (1 : Int32).toInt = 1 := by decide +kernel
theorem l_2 : (2 : Int32).toInt = 2 := by decide +kernel
theorem l_3 : (3 : Int32).toInt = 3 := by decide +kernel
theorem l_4 : (4 : Int32).toInt = 4 := by decide +kernel
theorem l_5 : (5 : Int32).toInt = 5 := by decide +kernel
theorem l_6 : (6 : Int32).toInt = 6 := by decide +kernel
theorem l_7 : (7 : Int32).toInt = 7 := by decide +kernel
theorem l_8 : (8 : Int32).toInt = 8 := by decide +kernel
theorem l_9 : (9 : Int32).toInt = 9 := by decide +kernel
theorem l_10 : (10 : Int32).toInt = 10 := by decide +kernel
theorem l_11 : (11 : Int32).toInt = 11 := by decide +kernel
theorem l_12 : (12 : Int32).toInt = 12 := by decide +kernel
theorem l_13 : (13 : Int32).toInt = 13 := by decide +kernel
theorem l_14 : (14 : Int32).toInt = 14 := by decide +kernel
theorem l_15 : (15 : Int32).toInt = 15 := by decide +kernel
theorem l_16 : (16 : Int32).toInt = 16 := by decide +kernel
theorem l_17 : (17 : Int32).toInt = 17 := by decide +kernel
theorem l_18 : (18 : Int32).toInt = 18 := by decide +kernel
theorem l_19 : (19 : Int32).toInt = 19 := by decide +kernel
theorem l_20 : (20 : Int32).toInt = 20 := by decide +kernel
theorem l_21 : (21 : Int32).toInt = 21 := by decide +kernel
theorem l_22 : (22 : Int32).toInt = 22 := by decide +kernel
theorem l_23 : (23 : Int32).toInt = 23 := by decide +kernel
theorem l_24 : (24 : Int32).toInt = 24 := by decide +kernel
theorem l_25 : (25 : Int32).toInt = 25 := by decide +kernel
theorem l_26 : (26 : Int32).toInt = 26 := by decide +kernel
theorem l_27 : (27 : Int32).toInt = 27 := by decide +kernel
theorem l_28 : (28 : Int32).toInt = 28 := by decide +kernel
theorem l_29 : (29 : Int32).toInt = 29 := by decide +kernel
theorem l_30 : (30 : Int32).toInt = 30 := by decide +kernel
theorem l_31 : (31 : Int32).toInt = 31 := by decide +kernel
theorem l_32 : (32 : Int32).toInt = 32 := by decide +kernel
theorem l_33 : (33 : Int32).toInt = 33 := by decide +kernel
theorem l_34 : (34 : Int32).toInt = 34 := by decide +kernel
theorem l_35 : (35 : Int32).toInt = 35 := by decide +kernel
theorem l_36 : (36 : Int32).toInt = 36 := by decide +kernel
theorem l_37 : (37 : Int32).toInt = 37 := by decide +kernel
theorem l_38 : (38 : Int32).toInt = 38 := by decide +kernel
theorem l_39 : (39 : Int32).toInt = 39 := by decide +kernel
theorem l_40 : (40 : Int32).toInt = 40 := by decide +kernel
theorem l_99 : (99 : Int32).toInt = 99 := by decide +kernel
theorem l_100 : (100 : Int32).toInt = 100 := by decide +kernel
theorem l_200 : (200 : Int32).toInt = 200 := by decide +kernel
theorem l_255 : (255 : Int32).toInt = 255 := by decide +kernel
theorem l_256 : (256 : Int32).toInt = 256 := by decide +kernel
theorem l_299 : (299 : Int32).toInt = 299 := by decide +kernel
theorem l_300 : (300 : Int32).toInt = 300 := by decide +kernel
theorem l_500 : (500 : Int32).toInt = 500 := by decide +kernel
theorem l_999 : (999 : Int32).toInt = 999 := by decide +kernel
theorem l_1000 : (1000 : Int32).toInt = 1000 := by decide +kernel
theorem l_5000 : (5000 : Int32).toInt = 5000 := by decide +kernel
theorem l_9999 : (9999 : Int32).toInt = 9999 := by decide +kernel
theorem l_99999 : (99999 : Int32).toInt = 99999 := by decide +kernel
theorem l_999999 : (999999 : Int32).toInt = 999999 := by decide +kernel
theorem l_2000000000 : (2000000000 : Int32).toInt = 2000000000 := by decide +kernel
theorem d_0 : (0 : Int64).toInt = 0 := by decide +kernel
theorem d_1 : (1 : Int64).toInt = 1 := by decide +kernel
theorem d_2 : (2 : Int64).toInt = 2 := by decide +kernel
theorem d_3 : (3 : Int64).toInt = 3 := by decide +kernel
theorem d_4 : (4 : Int64).toInt = 4 := by decide +kernel
theorem d_5 : (5 : Int64).toInt = 5 := by decide +kernel
theorem d_6 : (6 : Int64).toInt = 6 := by decide +kernel
theorem d_7 : (7 : Int64).toInt = 7 := by decide +kernel
theorem d_8 : (8 : Int64).toInt = 8 := by decide +kernel
theorem d_9 : (9 : Int64).toInt = 9 := by decide +kernel
theorem d_10 : (10 : Int64).toInt = 10 := by decide +kernel
theorem d_11 : (11 : Int64).toInt = 11 := by decide +kernel
theorem d_12 : (12 : Int64).toInt = 12 := by decide +kernel
theorem d_13 : (13 : Int64).toInt = 13 := by decide +kernel
theorem d_14 : (14 : Int64).toInt = 14 := by decide +kernel
theorem d_15 : (15 : Int64).toInt = 15 := by decide +kernel
theorem d_16 : (16 : Int64).toInt = 16 := by decide +kernel
theorem d_17 : (17 : Int64).toInt = 17 := by decide +kernel
theorem d_18 : (18 : Int64).toInt = 18 := by decide +kernel
theorem d_19 : (19 : Int64).toInt = 19 := by decide +kernel
theorem d_20 : (20 : Int64).toInt = 20 := by decide +kernel
theorem d_21 : (21 : Int64).toInt = 21 := by decide +kernel
theorem d_22 : (22 : Int64).toInt = 22 := by decide +kernel
theorem d_23 : (23 : Int64).toInt = 23 := by decide +kernel
theorem d_24 : (24 : Int64).toInt = 24 := by decide +kernel
theorem d_25 : (25 : Int64).toInt = 25 := by decide +kernel
theorem d_26 : (26 : Int64).toInt = 26 := by decide +kernel
theorem d_27 : (27 : Int64).toInt = 27 := by decide +kernel
theorem d_28 : (28 : Int64).toInt = 28 := by decide +kernel
theorem d_29 : (29 : Int64).toInt = 29 := by decide +kernel
theorem d_30 : (30 : Int64).toInt = 30 := by decide +kernel
theorem d_31 : (31 : Int64).toInt = 31 := by decide +kernel
theorem d_32 : (32 : Int64).toInt = 32 := by decide +kernel
theorem d_33 : (33 : Int64).toInt = 33 := by decide +kernel
theorem d_34 : (34 : Int64).toInt = 34 := by decide +kernel
theorem d_35 : (35 : Int64).toInt = 35 := by decide +kernel
theorem d_36 : (36 : Int64).toInt = 36 := by decide +kernel
theorem d_37 : (37 : Int64).toInt = 37 := by decide +kernel
theorem d_38 : (38 : Int64).toInt = 38 := by decide +kernel
theorem d_39 : (39 : Int64).toInt = 39 := by decide +kernel
theorem d_40 : (40 : Int64).toInt = 40 := by decide +kernel
theorem d_99 : (99 : Int64).toInt = 99 := by decide +kernel
theorem d_100 : (100 : Int64).toInt = 100 := by decide +kernel
theorem d_200 : (200 : Int64).toInt = 200 := by decide +kernel
theorem d_255 : (255 : Int64).toInt = 255 := by decide +kernel
theorem d_256 : (256 : Int64).toInt = 256 := by decide +kernel
theorem d_299 : (299 : Int64).toInt = 299 := by decide +kernel
theorem d_300 : (300 : Int64).toInt = 300 := by decide +kernel
theorem d_500 : (500 : Int64).toInt = 500 := by decide +kernel
theorem d_999 : (999 : Int64).toInt = 999 := by decide +kernel
theorem d_1000 : (1000 : Int64).toInt = 1000 := by decide +kernel
theorem d_5000 : (5000 : Int64).toInt = 5000 := by decide +kernel
theorem d_9999 : (9999 : Int64).toInt = 9999 := by decide +kernel
theorem d_99999 : (99999 : Int64).toInt = 99999 := by decide +kernel
theorem d_999999 : (999999 : Int64).toInt = 999999 := by decide +kernel
theorem d_2000000000 : (2000000000 : Int64).toInt = 2000000000 := by decide +kernel
theorem l_m1 : (-1 : Int32).toInt = -1 := by decide +kernel
theorem l_m2 : (-2 : Int32).toInt = -2 := by decide +kernel
theorem l_m3 : (-3 : Int32).toInt = -3 := by decide +kernel
theorem l_m4 : (-4 : Int32).toInt = -4 := by decide +kernel
theorem l_m5 : (-5 : Int32).toInt = -5 := by decide +kernel
theorem l_m6 : (-6 : Int32).toInt = -6 := by decide +kernel
theorem l_m7 : (-7 : Int32).toInt = -7 := by decide +kernel
theorem l_m8 : (-8 : Int32).toInt = -8 := by decide +kernel
theorem l_m9 : (-9 : Int32).toInt = -9 := by decide +kernel
theorem l_m10 : (-10 : Int32).toInt = -10 := by decide +kernel
theorem l_m11 : (-11 : Int32).toInt = -11 := by decide +kernel
theorem l_m12 : (-12 : Int32).toInt = -12 := by decide +kernel
theorem l_m13 : (-13 : Int32).toInt = -13 := by decide +kernel
theorem l_m14 : (-14 : Int32).toInt = -14 := by decide +kernel
theorem l_m15 : (-15 : Int32).toInt = -15 := by decide +kernel
theorem l_m16 : (-16 : Int32).toInt = -16 := by decide +kernel
theorem l_m17 : (-17 : Int32).toInt = -17 := by decide +kernel
theorem l_m18 : (-18 : Int32).toInt = -18 := by decide +kernel
theorem l_m19 : (-19 : Int32).toInt = -19 := by decide +kernel
theorem l_m20 : (-20 : Int32).toInt = -20 := by decide +kernel
theorem d_m1 : (-1 : Int64).toInt = -1 := by decide +kernel
theorem d_m2 : (-2 : Int64).toInt = -2 := by decide +kernel
theorem d_m3 : (-3 : Int64).toInt = -3 := by decide +kernel
theorem d_m4 : (-4 : Int64).toInt = -4 := by decide +kernel
theorem d_m5 : (-5 : Int64).toInt = -5 := by decide +kernel
theorem d_m6 : (-6 : Int64).toInt = -6 := by decide +kernel
theorem d_m7 : (-7 : Int64).toInt = -7 := by decide +kernel
theorem d_m8 : (-8 : Int64).toInt = -8 := by decide +kernel
theorem d_m9 : (-9 : Int64).toInt = -9 := by decide +kernel
theorem d_m10 : (-10 : Int64).toInt = -10 := by decide +kernel
theorem d_m11 : (-11 : Int64).toInt = -11 := by decide +kernel
theorem d_m12 : (-12 : Int64).toInt = -12 := by decide +kernel
theorem d_m13 : (-13 : Int64).toInt = -13 := by decide +kernel
theorem d_m14 : (-14 : Int64).toInt = -14 := by decide +kernel
theorem d_m15 : (-15 : Int64).toInt = -15 := by decide +kernel
theorem d_m16 : (-16 : Int64).toInt = -16 := by decide +kernel
theorem d_m17 : (-17 : Int64).toInt = -17 := by decide +kernel
theorem d_m18 : (-18 : Int64).toInt = -18 := by decide +kernel
theorem d_m19 : (-19 : Int64).toInt = -19 := by decide +kernel
theorem d_m20 : (-20 : Int64).toInt = -20 := by decide +kernel
