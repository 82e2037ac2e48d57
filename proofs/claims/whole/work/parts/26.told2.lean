theorem RA_forget {r25 k26 k27 k28 : Nat → Int32} {m50 m51 : Int32} {m122 m123 m124 m125 : Nat → Int32} {opn on warmed : Int32} {m104 m105 m106 lim : Nat → Int32} {pipes pumps : Int32} (h : RA r25 k26 k27 k28 m50 m51 m122 m123 m124 m125 opn on warmed m104 m105 m106 pipes pumps lim) : RA (upd (upd r25 3 0) 4 0) k26 k27 k28 0 0 m122 m123 m124 m125 opn on warmed m104 m105 m106 pipes pumps lim := by
  obtain ⟨d, u, h1, so, sn, sw, h2, h3, h4, h5⟩ := h
  refine ⟨0, 0, ⟨rfl, rfl, rfl, rfl, by omega⟩, fun _ => so d, fun _ => sn d, fun _ => sw d, h2, h3, fun j _ => h4 d (by omega), fun j hj => absurd hj (by omega)⟩
/-- the heaps after an act's list is forgotten -/
theorem RR_forget {n : Nat} {σ τ : Hp} (h : RR n σ τ) : RR n (sI (sI σ 25 3 0) 25 4 0) (sI (sI τ 86 50 0) 86 51 0) := by
  obtain ⟨hF, hP, hG, hA, hT, hU, hg, hc, hs, hd, ho⟩ := h
  exact ⟨hF, hP, hG, RA_forget hA, hT, hU, hg, hc, hs, hd, ho⟩
theorem rr_rooms {n : Nat} {σ τ : Hp} (h : RR n σ τ) : τ.1 86 20 = σ.1 1 0 ∧ 0 ≤ (σ.1 1 0).toInt ∧ (σ.1 1 0).toInt ≤ 5 := ⟨h.2.1.1.1.symm, h.2.1.2.1.1⟩
theorem rr_pipes {n : Nat} {σ τ : Hp} (h : RR n σ τ) : τ.1 86 21 = σ.1 1 6 ∧ 0 ≤ (σ.1 1 6).toInt ∧ (σ.1 1 6).toInt ≤ 12 := ⟨h.2.1.1.2.1.symm, h.2.1.2.1.2.1⟩
theorem rr_pumps {n : Nat} {σ τ : Hp} (h : RR n σ τ) : τ.1 86 22 = σ.1 1 11 ∧ 0 ≤ (σ.1 1 11).toInt ∧ (σ.1 1 11).toInt ≤ 8 := ⟨h.2.1.1.2.2.symm, h.2.1.2.1.2.2⟩
theorem st_warm (n : Nat) (a b : Int32) {σ τ : Hp} (h : RR n σ τ) : Ok32 n (f_X11_warm a b σ) (f_X12_warm a b τ) := by
  obtain ⟨hr, hr0, hr5⟩ := rr_rooms h
  simp only [f_X11_warm_j41, f_X11_warm_j30, f_X11_warm_j20, f_X11_warm, f_X12_warm, f_X0_forget, f_X12_forgets, jn_e, lt_e, k_within, k_isIn, k_isGas, k_isRoom, k_isPipe, k_isPump, k_out, cl_s, cr_s, rf_1, rf_2, rf_4, rf_6, rf_0, e_no1, e_no2, e_no3, e_no4, e_no6, e_no7, e_refuse1, e_refuse2, e_refuse3, e_refuse4, e_refuse6, e_refuse7, n1z, n2z, n3z, n4z, n6z, z0z, z1z, i32_lt, i32_le, Int.reduceAdd, Int.reduceSub, if_true, if_false, hr, l_0, l_10, d_0, d_9, ile]
  by_cases h1 : 0 ≤ a.toInt ∧ a.toInt < (σ.1 1 0).toInt
  · simp only [if_pos h1]
    by_cases h2 : b.toInt < 0
    · simp only [if_pos h2, ite_self]; exact ok_ref h
    by_cases h3 : 9 < b.toInt
    · simp only [if_neg h2, if_pos h3, if_neg (show ¬ b.toInt < 10 by omega)]; exact ok_ref h
    simp only [if_neg h2, if_neg h3, if_pos (show b.toInt < 10 by omega)]
    rw [ldI_ok h1.1 (by omega), ldI_ok h1.1 (by omega), stI_ok h1.1 (by omega), stI_ok h1.1 (by omega)]
    obtain ⟨hF, hP, hG, hA, hT, hU, hg, hc, hs, hd, ho⟩ := RR_forget h
    obtain ⟨p1, p2, ⟨q2, q3, q4, q5, q6, q7, q8, q9, q10, q11, q12⟩, p4, p5, p6, p7⟩ := hP
    exact ⟨_, sI (sI (sI σ 25 3 0) 25 4 0) 4 a.toNatClampNeg b, sI (sI (sI τ 86 50 0) 86 51 0) 90 a.toNatClampNeg b, rfl, congrArg (fun f : Nat → Int32 => some (f a.toNatClampNeg, _)) q4.symm, hF, ⟨p1, p2, ⟨q2, q3, congrArg (fun f => upd f a.toNatClampNeg b) q4, q5, q6, q7, q8, q9, q10, q11, q12⟩, p4, p5, bd_upd p6 ⟨by omega, by omega⟩ _, p7⟩, RG_mono (Nat.le_succ n) hG, hA, hT, hU, hg, hc, hs, hd, ho⟩
  · simp only [if_neg h1, ite_self]; exact ok_ref h
theorem ix10 {a b : Int32} (h1 : 0 ≤ a.toInt ∧ a.toInt < 100) (h2 : 0 ≤ b.toInt ∧ b.toInt < 10) : (a * 10 + b).toInt = 10 * a.toInt + b.toInt := by
  have e : (a * 10).toInt = a.toInt * 10 := by rw [mulI (by rw [l_10]; omega) (by rw [l_10]; omega), l_10]
  rw [addI (by rw [e]; omega) (by rw [e]; omega), e]
  omega
theorem ix10' (a b : Int32) : 10 * a + b = a * 10 + b := by rw [Int32.mul_comm]
theorem st_gives (n : Nat) (a b c : Int32) {σ τ : Hp} (h : RR n σ τ) : Ok32 n (f_X11_gives a b c σ) (f_X12_gives a b c τ) := by
  simp only [f_X11_gives_j45, f_X11_gives_j33, f_X11_gives_j23, f_X11_gives_j18, f_X11_gives, f_X12_gives_j24, f_X12_gives, f_X0_forget, f_X12_forgets, jn_e, lt_e, k_within, k_isIn, k_isGas, k_isRoom, k_isPipe, k_isPump, k_out, cl_s, cr_s, rf_1, rf_2, rf_4, rf_6, rf_0, e_no1, e_no2, e_no3, e_no4, e_no6, e_no7, e_refuse1, e_refuse2, e_refuse3, e_refuse4, e_refuse6, e_refuse7, n1z, n2z, n3z, n4z, n6z, z0z, z1z, i32_lt, i32_le, Int.reduceAdd, Int.reduceSub, if_true, if_false, l_0, l_4, l_10, l_500, d_0, d_3, d_9, d_500, ile]
  by_cases h1 : 0 ≤ a.toInt ∧ a.toInt < 4
  · simp only [if_pos h1]
    by_cases h0 : 0 ≤ b.toInt ∧ b.toInt < 10
    · simp only [if_pos h0]
      by_cases h2 : c.toInt < 0
      · simp only [if_pos h2, ite_self]; exact ok_ref h
      by_cases h3 : 500 < c.toInt
      · simp only [if_neg h2, if_pos h3]; exact ok_ref h
      simp only [if_neg h2, if_neg h3]
      have e := ix10 (a := a) (b := b) (by omega) h0
      rw [ix10' a b, ldI_ok (by omega) (by omega), ldI_ok (by omega) (by omega), stI_ok (by omega) (by omega), stI_ok (by omega) (by omega)]
      obtain ⟨hF, hP, hG, hA, hT, hU, hg, hc, hs, hd, ho⟩ := RR_forget h
      obtain ⟨p1, p2, ⟨q2, q3, q4, q5, q6, q7, q8, q9, q10, q11, q12⟩, p4, p5, p6, p7, p8⟩ := hP
      exact ⟨_, sI (sI (sI σ 25 3 0) 25 4 0) 5 (a * 10 + b).toNatClampNeg c, sI (sI (sI τ 86 50 0) 86 51 0) 91 (a * 10 + b).toNatClampNeg c, rfl, congrArg (fun f : Nat → Int32 => some (f (a * 10 + b).toNatClampNeg, _)) q5.symm, hF, ⟨p1, p2, ⟨q2, q3, q4, congrArg (fun f => upd f (a * 10 + b).toNatClampNeg c) q5, q6, q7, q8, q9, q10, q11, q12⟩, p4, p5, p6, bd_upd p7 ⟨by omega, by omega⟩ _, p8⟩, RG_mono (Nat.le_succ n) hG, hA, hT, hU, hg, hc, hs, hd, ho⟩
    · simp only [if_neg h0, ite_self]; exact ok_ref h
  · simp only [if_neg h1, ite_self]; exact ok_ref h
theorem st_leak (n : Nat) (a b c : Int32) {σ τ : Hp} (h : RR n σ τ) : Ok32 n (f_X11_leak a b c σ) (f_X12_leak a b c τ) := by
  obtain ⟨hr, hr0, hr5⟩ := rr_rooms h
  simp only [f_X11_leak_j50, f_X11_leak_j38, f_X11_leak_j28, f_X11_leak_j23, f_X11_leak, f_X12_leak_j15, f_X12_leak, f_X0_forget, f_X12_forgets, jn_e, lt_e, k_within, k_isIn, k_isGas, k_isRoom, k_isPipe, k_isPump, k_out, cl_s, cr_s, rf_1, rf_2, rf_4, rf_6, rf_0, e_no1, e_no2, e_no3, e_no4, e_no6, e_no7, e_refuse1, e_refuse2, e_refuse3, e_refuse4, e_refuse6, e_refuse7, n1z, n2z, n3z, n4z, n6z, z0z, z1z, i32_lt, i32_le, Int.reduceAdd, Int.reduceSub, if_true, if_false, hr, l_0, l_3, l_999, d_0, d_3, d_999, ile]
  by_cases h1 : 0 ≤ a.toInt ∧ a.toInt < (σ.1 1 0).toInt
  · simp only [if_pos h1]
    by_cases h0 : 0 ≤ b.toInt ∧ b.toInt < 3
    · simp only [if_pos h0]
      by_cases h2 : c.toInt < 0
      · simp only [if_pos h2, ite_self]; exact ok_ref h
      by_cases h3 : 999 < c.toInt
      · simp only [if_neg h2, if_pos h3]; exact ok_ref h
      simp only [if_neg h2, if_neg h3]
      have e := ix3 (a := a) (b := b) (by omega) h0
      rw [ix3' a b, ldI_ok (by omega) (by omega), ldI_ok (by omega) (by omega), stI_ok (by omega) (by omega), stI_ok (by omega) (by omega)]
      obtain ⟨hF, hP, hG, hA, hT, hU, hg, hc, hs, hd, ho⟩ := RR_forget h
      obtain ⟨p1, p2, ⟨q2, q3, q4, q5, q6, q7, q8, q9, q10, q11, q12⟩, p4, p5, p6, p7, p8, p9⟩ := hP
      exact ⟨_, sI (sI (sI σ 25 3 0) 25 4 0) 6 (a * 3 + b).toNatClampNeg c, sI (sI (sI τ 86 50 0) 86 51 0) 98 (a * 3 + b).toNatClampNeg c, rfl, congrArg (fun f : Nat → Int32 => some (f (a * 3 + b).toNatClampNeg, _)) q6.symm, hF, ⟨p1, p2, ⟨q2, q3, q4, q5, congrArg (fun f => upd f (a * 3 + b).toNatClampNeg c) q6, q7, q8, q9, q10, q11, q12⟩, p4, p5, p6, p7, bd_upd p8 ⟨by omega, by omega⟩ _, p9⟩, RG_mono (Nat.le_succ n) hG, hA, hT, hU, hg, hc, hs, hd, ho⟩
    · simp only [if_neg h0, ite_self]; exact ok_ref h
  · simp only [if_neg h1, ite_self]; exact ok_ref h
theorem st_stage (n : Nat) (a b c d e : Int32) {σ τ : Hp} (h : RR n σ τ) : Ok32 n (f_X11_stage a b c d e σ) (f_X12_stage a b c d e τ) := by
  simp only [f_X11_stage_j72, f_X11_stage_j67, f_X11_stage_j39, f_X11_stage_j34, f_X11_stage_j14, f_X11_stage, f_X12_stage_j76, f_X12_stage_j37, f_X12_stage_j70, f_X12_stage, f_X1_tell, jn_e, lt_e, k_within, k_isIn, k_isGas, k_isRoom, k_isPipe, k_isPump, k_out, cl_s, cr_s, rf_1, rf_2, rf_4, rf_6, rf_0, e_no1, e_no2, e_no3, e_no4, e_no6, e_no7, e_refuse1, e_refuse2, e_refuse3, e_refuse4, e_refuse6, e_refuse7, n1z, n2z, n3z, n4z, n6z, z0z, z1z, i32_lt, i32_le, Int.reduceAdd, Int.reduceSub, if_true, if_false, l_0, l_1, l_4, l_99, l_299, l_9999, d_0, d_3, ile]
  by_cases h1 : 0 ≤ a.toInt ∧ a.toInt < 4
  · simp only [if_pos h1]
    by_cases h2 : b.toInt < 0
    · simp only [if_pos h2, ite_self]; exact ok_ref h
    by_cases h3 : c.toInt < 1
    · simp only [if_neg h2, if_pos h3, ite_self]; exact ok_ref h
    by_cases h4 : d.toInt < 0
    · simp only [if_neg h2, if_neg h3, if_pos h4, ite_self]; exact ok_ref h
    by_cases h5 : e.toInt < 0
    · simp only [if_neg h2, if_neg h3, if_neg h4, if_pos h5, ite_self]; exact ok_ref h
    simp only [if_neg h2, if_neg h3, if_neg h4, if_neg h5]
    by_cases h6 : 299 < b.toInt
    · simp only [if_pos h6]; exact ok_ref h
    by_cases h7 : 99 < c.toInt
    · simp only [if_neg h6, if_pos h7]; exact ok_ref h
    by_cases h8 : 99 < d.toInt
    · simp only [if_neg h6, if_neg h7, if_pos h8]; exact ok_ref h
    by_cases h9 : 9999 < e.toInt
    · simp only [if_neg h6, if_neg h7, if_neg h8, if_pos h9]; exact ok_ref h
    simp only [if_neg h6, if_neg h7, if_neg h8, if_neg h9]
    have k0 : ∀ v : Nat, v = a.toNatClampNeg → v < 4 := fun v hv => by have := clampI h1.1; omega
    rw [stI_ok h1.1 h1.2, stI_ok h1.1 h1.2, stI_ok h1.1 h1.2, stI_ok h1.1 h1.2, stI_ok h1.1 h1.2, stI_ok h1.1 h1.2, stI_ok h1.1 h1.2, stI_ok h1.1 h1.2]
    obtain ⟨hF, hP, hG, hA, hT, hU, hg, hc, hs, hd, ho⟩ := h
    obtain ⟨⟨c1, c2, c3, c4⟩, b1, b2, b3, b4⟩ := hc
    exact ⟨_, _, _, rfl, rfl, hF, hP, RG_mono (Nat.le_succ n) hG, hA, hT, hU, hg, ⟨⟨congrArg (fun f => upd f a.toNatClampNeg b) c1, congrArg (fun f => upd f a.toNatClampNeg c) c2, congrArg (fun f => upd f a.toNatClampNeg d) c3, congrArg (fun f => upd f a.toNatClampNeg e) c4⟩, bd_upd b1 ⟨by omega, by omega⟩ _, fun k hk => by
      show bd (upd (σ.1 74) a.toNatClampNeg c k) 1 99
      unfold upd
      split
      · exact ⟨by omega, by omega⟩
      · exact b2 k hk, bd_upd b3 ⟨by omega, by omega⟩ _, bd_upd b4 ⟨by omega, by omega⟩ _⟩, hs, hd, ho⟩
  · simp only [if_neg h1, ite_self]; exact ok_ref h
