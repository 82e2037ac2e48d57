theorem i32_congr {a b : Int32} (h : a.toInt = b.toInt) : a = b := Int32.toInt_inj.mp h
theorem ix5 {a b : Int32} (h1 : 0 ≤ a.toInt ∧ a.toInt < 100) (h2 : 0 ≤ b.toInt ∧ b.toInt < 5) : (a * 5 + b).toInt = 5 * a.toInt + b.toInt := by
  have e : (a * 5).toInt = a.toInt * 5 := by rw [mulI (by rw [l_5]; omega) (by rw [l_5]; omega), l_5]
  rw [addI (by rw [e]; omega) (by rw [e]; omega), e]
  omega
theorem ix5' (a b : Int32) : 5 * a + b = a * 5 + b := by rw [Int32.mul_comm]
theorem st_square (n : Nat) (a b c : Int32) (hc01 : c = 0 ∨ c = 1) {σ τ : Hp} (h : RR n σ τ) : Ok32 n (f_X11_square a b c σ) (f_X12_square a b c τ) := by
  simp only [f_X11_square_j16, f_X11_square_j40, f_X11_square, f_X12_square_j24, f_X12_square_j49, f_X12_square, f_X2_draw_j23, f_X2_draw, jn_e, lt_e, k_within, k_isIn, k_isGas, k_isRoom, k_isPipe, k_isPump, k_out, cl_s, cr_s, rf_1, rf_2, rf_4, rf_6, rf_0, e_no1, e_no2, e_no3, e_no4, e_no6, e_no7, e_refuse1, e_refuse2, e_refuse3, e_refuse4, e_refuse6, e_refuse7, n1z, n2z, n3z, n4z, n6z, z0z, z1z, i32_lt, i32_le, Int.reduceAdd, Int.reduceSub, if_true, if_false, l_0, l_5, d_0, d_4, ile]
  by_cases h1 : 0 ≤ a.toInt ∧ a.toInt < 5
  · simp only [if_pos h1]
    by_cases h2 : 0 ≤ b.toInt ∧ b.toInt < 5
    · simp only [if_pos h2]
      have e1 := ix5 (a := b) (b := a) (by omega) h1
      have e2 := ix5 (a := a) (b := b) (by omega) h2
      obtain ⟨hF, hP, hG, hA, hT, hU, hg, hc, hs, hd, ho⟩ := h
      obtain ⟨d1, d2, d3⟩ := hd
      have ca := clampI h1.1
      have cb := clampI h2.1
      have c1 := clampI (a := b * 5 + a) (by omega)
      have c2 := clampI (a := a * 5 + b) (by omega)
      have n1 : (b * 5 + a).toNatClampNeg = 5 * b.toNatClampNeg + a.toNatClampNeg := by omega
      have n2 : (a * 5 + b).toNatClampNeg = 5 * a.toNatClampNeg + b.toNatClampNeg := by omega
      have q := d1 a.toNatClampNeg b.toNatClampNeg (by omega) (by omega)
      have q1 : τ.1 132 (a * 5 + b).toNatClampNeg = σ.1 64 (b * 5 + a).toNatClampNeg := by rw [n1, n2]; exact q.1.symm
      simp only [ix5' a b, ldI_ok (show 0 ≤ (b * 5 + a).toInt by omega) (show (b * 5 + a).toInt < ((25 : Nat) : Int) by omega), ldI_ok (show 0 ≤ (a * 5 + b).toInt by omega) (show (a * 5 + b).toInt < ((25 : Nat) : Int) by omega), stZ_ok (show 0 ≤ (b * 5 + a).toInt by omega) (show (b * 5 + a).toInt < ((25 : Nat) : Int) by omega), stZ_ok (show 0 ≤ (a * 5 + b).toInt by omega) (show (a * 5 + b).toInt < ((25 : Nat) : Int) by omega), nar_b hc01, q1, ckZ_0, ckZ_1, cl_s]
      have key : ∀ v : Int32, Ok32 n (some (v, sI σ 64 (b * 5 + a).toNatClampNeg c)) (some (v, sI τ 132 (a * 5 + b).toNatClampNeg c)) := by
        intro v
        refine ⟨_, _, _, rfl, rfl, hF, hP, RG_mono (Nat.le_succ n) hG, hA, hT, hU, hg, hc, hs, ⟨fun x y hx hy => ?_, d2, d3⟩, ho⟩
        show upd (σ.1 64) _ c (5 * y + x) = upd (τ.1 132) _ c (5 * x + y) ∧ (upd (σ.1 64) _ c (5 * y + x) = 0 ∨ upd (σ.1 64) _ c (5 * y + x) = 1)
        unfold upd
        by_cases hh : x = a.toNatClampNeg ∧ y = b.toNatClampNeg
        · rw [if_pos (by omega), if_pos (by omega)]
          exact ⟨rfl, hc01⟩
        · rw [if_neg (by omega), if_neg (by omega)]
          exact d1 x y hx hy
      by_cases h3 : σ.1 64 (b * 5 + a).toNatClampNeg = c
      · simp only [if_pos h3, if_true]; exact key 0
      · simp only [if_neg h3]; exact key 1
    · simp only [if_neg h2, ite_self]; exact ok_ref h
  · simp only [if_neg h1, ite_self]; exact ok_ref h
theorem ou3_congr {lim lim' t : Nat → Int32} {g : Nat} : ∀ m : Nat, (∀ k, k < m → lim k = lim' k) → ou3 lim t g m = ou3 lim' t g m
  | 0, _ => rfl
  | m + 1, h => by
    show ou3 lim t g m + (if (lim m).toInt = 0 then t (3 * m + g) else 0) = ou3 lim' t g m + (if (lim' m).toInt = 0 then t (3 * m + g) else 0)
    rw [ou3_congr m (fun k hk => h k (by omega)), h m (by omega)]
theorem RG_pump {n : Nat} {tick m23 : Int32} {c14 c15 c16 c17 m99 m100 m101 m102 m103 lim : Nat → Int32} {pumps e : Int32} (h0 : 0 ≤ pumps.toInt) (h8 : pumps.toInt < 8) (he : 0 ≤ e.toInt) (h : RG n tick m23 c14 c15 c16 c17 m99 m100 m101 m102 m103 lim pumps) : RG n tick m23 c14 c15 c16 c17 m99 m100 m101 m102 m103 (upd lim pumps.toNatClampNeg e) (pumps + 1) := by
  obtain ⟨h1, h2, h3, h4, h5, h6, h7, h8', h9⟩ := h
  have e1 : (pumps + 1).toInt = pumps.toInt + 1 := by rw [addI (by rw [l_1]; omega) (by rw [l_1]; omega), l_1]
  have cp := clampI h0
  have z := h8' pumps.toNatClampNeg (by omega)
  refine ⟨h1, h2, h3, h4, h5, h6, fun k hk hl => ?_, fun k hk => h8' k (by omega), fun g hg => ?_⟩
  · unfold upd at hl ⊢
    by_cases hh : k = pumps.toNatClampNeg
    · rw [if_pos hh] at hl ⊢
      rw [hh, z.1, z.2.1, z.2.2, l_0]
      omega
    · rw [if_neg hh] at hl ⊢
      exact h7 k hk hl
  · have e2 : (pumps + 1).toInt.toNat = pumps.toNatClampNeg + 1 := by omega
    have e3 : pumps.toInt.toNat = pumps.toNatClampNeg := rfl
    rw [h9 g hg, e2, e3]
    show ou3 lim c16 g pumps.toNatClampNeg = ou3 (upd lim pumps.toNatClampNeg e) c16 g pumps.toNatClampNeg + (if (upd lim pumps.toNatClampNeg e pumps.toNatClampNeg).toInt = 0 then c16 (3 * pumps.toNatClampNeg + g) else 0)
    rw [ou3_congr (lim' := upd lim pumps.toNatClampNeg e) _ (fun k hk => (if_neg (by omega)).symm)]
    have zz : c16 (3 * pumps.toNatClampNeg + g) = 0 := by
      rcases (by omega : g = 0 ∨ g = 1 ∨ g = 2) with rfl | rfl | rfl
      · exact z.1
      · exact z.2.1
      · exact z.2.2
    rw [zz, ite_self, Int32.add_zero]
theorem st_pump (n : Nat) (a b c d e : Int32) {σ τ : Hp} (h : RR n σ τ) : Ok32 n (f_X11_pump a b c d e σ) (f_X12_pump a b c d e τ) := by
  obtain ⟨hr, hr0, hr5⟩ := rr_rooms h
  obtain ⟨hq, hq0, hq5⟩ := rr_pumps h
  simp only [f_X11_pump_j89, f_X11_pump_j84, f_X11_pump_j65, f_X11_pump_j43, f_X11_pump_j38, f_X11_pump, f_X12_pump_j78, f_X12_pump_j32, f_X12_pump_j72, f_X12_pump, f_X0_forget, f_X12_forgets, f_X5_addPump, jn_e, lt_e, k_within, k_isIn, k_isGas, k_isRoom, k_isPipe, k_isPump, k_out, cl_s, cr_s, rf_1, rf_2, rf_4, rf_6, rf_0, e_no1, e_no2, e_no3, e_no4, e_no6, e_no7, e_refuse1, e_refuse2, e_refuse3, e_refuse4, e_refuse6, e_refuse7, n1z, n2z, n3z, n4z, n6z, z0z, z1z, i32_lt, i32_le, Int.reduceAdd, Int.reduceSub, if_true, if_false, hr, hq, i32_eq (σ.1 1 11) 8, l_0, l_8, l_9, l_99999, ile]
  by_cases h1 : 0 ≤ a.toInt ∧ a.toInt < (σ.1 1 0).toInt
  · simp only [if_pos h1]
    by_cases h2 : b.toInt < 0
    · simp only [if_pos h2, ite_self]; exact ok_ref h
    by_cases h3 : c.toInt < 0
    · simp only [if_neg h2, if_pos h3, ite_self]; exact ok_ref h
    by_cases h4 : d.toInt < 0
    · simp only [if_neg h2, if_neg h3, if_pos h4, ite_self]; exact ok_ref h
    by_cases h5 : e.toInt < 0
    · simp only [if_neg h2, if_neg h3, if_neg h4, if_pos h5, ite_self]; exact ok_ref h
    simp only [if_neg h2, if_neg h3, if_neg h4, if_neg h5]
    by_cases h6 : 9 < b.toInt
    · simp only [if_pos h6]; exact ok_ref h
    by_cases h7 : 9 < c.toInt
    · simp only [if_neg h6, if_pos h7]; exact ok_ref h
    by_cases h8 : 9 < d.toInt
    · simp only [if_neg h6, if_neg h7, if_pos h8]; exact ok_ref h
    by_cases h9 : 99999 < e.toInt
    · simp only [if_neg h6, if_neg h7, if_neg h8, if_pos h9]; exact ok_ref h
    by_cases h10 : (σ.1 1 11).toInt = 8
    · simp only [if_neg h6, if_neg h7, if_neg h8, if_neg h9, if_pos h10, if_neg (show ¬ (σ.1 1 11).toInt < 8 by omega)]; exact ok_ref h
    have hb : (σ.1 1 11).toInt < ((8 : Nat) : Int) := by omega
    have i0 : (σ.1 1 11 * 3).toInt = 3 * (σ.1 1 11).toInt := by rw [mulI (by rw [l_3]; omega) (by rw [l_3]; omega), l_3]; omega
    have i1 : (σ.1 1 11 * 3 + 1).toInt = 3 * (σ.1 1 11).toInt + 1 := ix3 (b := 1) (by omega) (by rw [l_1]; omega)
    have i2 : (σ.1 1 11 * 3 + 2).toInt = 3 * (σ.1 1 11).toInt + 2 := ix3 (b := 2) (by omega) (by rw [l_2]; omega)
    simp only [if_neg h6, if_neg h7, if_neg h8, if_neg h9, if_neg h10, if_pos (show (σ.1 1 11).toInt < 8 by omega), l_8, stI_ok hq0 hb, sI_1, upd_at, reduceIte, Nat.reduceEqDiff, hq, cl_s, Int32.add_sub_cancel, Int32.mul_comm 3, stI_ok (show 0 ≤ (σ.1 1 11 * 3).toInt by omega) (show (σ.1 1 11 * 3).toInt < ((24 : Nat) : Int) by omega), stI_ok (show 0 ≤ (σ.1 1 11 * 3 + 1).toInt by omega) (show (σ.1 1 11 * 3 + 1).toInt < ((24 : Nat) : Int) by omega), stI_ok (show 0 ≤ (σ.1 1 11 * 3 + 2).toInt by omega) (show (σ.1 1 11 * 3 + 2).toInt < ((24 : Nat) : Int) by omega)]
    obtain ⟨hF, hP, hG, hA, hT, hU, hg, hc, hs, hd, ho⟩ := h
    obtain ⟨p1, ⟨v1, v2, v3⟩, ⟨q2, q3, q4, q5, q6, q7, q8, q9, q10, q11, q12⟩, p4, p5, p6, p7, p8, p9, p10, p11, p12⟩ := hP
    have e1 : (σ.1 1 11 + 1).toInt = (σ.1 1 11).toInt + 1 := by rw [addI (by rw [l_1]; omega) (by rw [l_1]; omega), l_1]
    exact ⟨_, _, _, rfl, rfl, hF, ⟨⟨p1.1, p1.2.1, rfl⟩, ⟨v1, v2, (show bd (σ.1 1 11 + 1) 0 8 from ⟨by omega, by omega⟩)⟩, ⟨q2, q3, q4, q5, q6, q7, q8, q9, congrArg (fun f => upd f (σ.1 1 11).toNatClampNeg a) q10, congrArg (fun f => upd (upd (upd f (σ.1 1 11 * 3).toNatClampNeg b) (σ.1 1 11 * 3 + 1).toNatClampNeg c) (σ.1 1 11 * 3 + 2).toNatClampNeg d) q11, congrArg (fun f => upd f (σ.1 1 11).toNatClampNeg e) q12⟩, p4, p5, p6, p7, p8, p9, upd_lt (P := fun x => bd x 0 ((σ.1 1 0).toInt - 1)) hq0 (by omega) p10 ⟨by omega, by omega⟩, bd_upd (bd_upd (bd_upd p11 ⟨by omega, by omega⟩ _) ⟨by omega, by omega⟩ _) ⟨by omega, by omega⟩ _, bd_upd p12 ⟨by omega, by omega⟩ _⟩, RG_pump hq0 (by omega) (by omega) (RG_mono (Nat.le_succ n) hG), RA_more (Int.le_refl _) (show (σ.1 1 11).toInt ≤ (σ.1 1 11 + 1).toInt by omega) (fun k hk => if_neg (show ¬ k = (σ.1 1 11).toNatClampNeg by have := clampI hq0; omega)) hA, hT, hU, hg, hc, hs, hd, ho⟩
  · simp only [if_neg h1, ite_self]; exact ok_ref h
