theorem i32_congr {a b : Int32} (h : a.toInt = b.toInt) : a = b := Int32.toInt_inj.mp h
theorem ix5 {a b : Int32} (h1 : 0 ≤ a.toInt ∧ a.toInt < 100) (h2 : 0 ≤ b.toInt ∧ b.toInt < 5) : (a * 5 + b).toInt = 5 * a.toInt + b.toInt := by
  have e : (a * 5).toInt = a.toInt * 5 := by rw [mulI (by rw [l_5]; omega) (by rw [l_5]; omega), l_5]
  rw [addI (by rw [e]; omega) (by rw [e]; omega), e]
  omega
theorem ix5' (a b : Int32) : 5 * a + b = a * 5 + b := by rw [Int32.mul_comm]
theorem st_square (n : Nat) (a b c : Int32) (hc01 : c = 0 ∨ c = 1) {σ τ : Hp} (h : RR n σ τ) : Ok32 n (f_X11_square a b c σ) (f_X12_square a b c τ) := by
  simp only [f_X11_square_j16, f_X11_square_j40, f_X11_square, f_X12_square_j24, f_X12_square_j49, f_X12_square, f_X2_draw_j23, f_X2_draw, jn_e, lt_e, k_within, k_isIn, k_isGas, k_isRoom, k_isPipe, k_isPump, k_out, cl_s, cr_s, rf_1, rf_2, rf_4, rf_6, rf_0, e_no1, e_no2, e_no3, e_no4, e_no6, e_no7, e_refuse1, e_refuse2, e_refuse3, e_refuse4, e_refuse6, e_refuse7, n1z, n2z, n3z, n4z, n6z, z0z, z1z, i32_lt, i32_le, Int.reduceAdd, Int.reduceSub, if_true, if_false, l_0, l_5, d_0, d_4, ile]
  by_cases h1 : 0 ≤ a.toInt ∧ a.toInt < 5
  · simp only [if_pos h1]
    by_cases h2 : 0 ≤ b.toInt ∧ b.toInt < 5
    · simp only [if_pos h2]
      have e1 := ix5 (a := b) (b := a) (by omega) h1
      have e2 := ix5 (a := a) (b := b) (by omega) h2
      obtain ⟨hF, hP, hG, hA, hT, hU, hg, hc, hs, hd, ho⟩ := h
      obtain ⟨d1, d2, d3⟩ := hd
      have ca := clampI h1.1
      have cb := clampI h2.1
      have c1 := clampI (a := b * 5 + a) (by omega)
      have c2 := clampI (a := a * 5 + b) (by omega)
      have n1 : (b * 5 + a).toNatClampNeg = 5 * b.toNatClampNeg + a.toNatClampNeg := by omega
      have n2 : (a * 5 + b).toNatClampNeg = 5 * a.toNatClampNeg + b.toNatClampNeg := by omega
      have q := d1 a.toNatClampNeg b.toNatClampNeg (by omega) (by omega)
      have q1 : τ.1 132 (a * 5 + b).toNatClampNeg = σ.1 64 (b * 5 + a).toNatClampNeg := by rw [n1, n2]; exact q.1.symm
      simp only [ix5' a b, ldI_ok (show 0 ≤ (b * 5 + a).toInt by omega) (show (b * 5 + a).toInt < ((25 : Nat) : Int) by omega), ldI_ok (show 0 ≤ (a * 5 + b).toInt by omega) (show (a * 5 + b).toInt < ((25 : Nat) : Int) by omega), stZ_ok (show 0 ≤ (b * 5 + a).toInt by omega) (show (b * 5 + a).toInt < ((25 : Nat) : Int) by omega), stZ_ok (show 0 ≤ (a * 5 + b).toInt by omega) (show (a * 5 + b).toInt < ((25 : Nat) : Int) by omega), nar_b hc01, q1, ckZ_0, ckZ_1, cl_s]
      have key : ∀ v : Int32, Ok32 n (some (v, sI σ 64 (b * 5 + a).toNatClampNeg c)) (some (v, sI τ 132 (a * 5 + b).toNatClampNeg c)) := by
        intro v
        refine ⟨_, _, _, rfl, rfl, hF, hP, RG_mono (Nat.le_succ n) hG, hA, hT, hU, hg, hc, hs, ⟨fun x y hx hy => ?_, d2, d3⟩, ho⟩
        show upd (σ.1 64) _ c (5 * y + x) = upd (τ.1 132) _ c (5 * x + y) ∧ (upd (σ.1 64) _ c (5 * y + x) = 0 ∨ upd (σ.1 64) _ c (5 * y + x) = 1)
        unfold upd
        by_cases hh : x = a.toNatClampNeg ∧ y = b.toNatClampNeg
        · rw [if_pos (by omega), if_pos (by omega)]
          exact ⟨rfl, hc01⟩
        · rw [if_neg (by omega), if_neg (by omega)]
          exact d1 x y hx hy
      by_cases h3 : σ.1 64 (b * 5 + a).toNatClampNeg = c
      · simp only [if_pos h3, if_true]; exact key 0
      · simp only [if_neg h3]; exact key 1
    · simp only [if_neg h2, ite_self]; exact ok_ref h
  · simp only [if_neg h1, ite_self]; exact ok_ref h
