theorem ile {α : Type} {a b : Int} (x y : α) : (if a ≤ b then x else y) = if b < a then y else x := by
  by_cases h : a ≤ b
  · rw [if_pos h, if_neg (by omega)]
  · rw [if_neg h, if_pos (by omega)]
theorem st_late (n : Nat) (a b : Int32) {σ τ : Hp} (h : RR n σ τ) : Ok32 n (f_X11_late a b σ) (f_X12_late a b τ) := by
  simp only [f_X11_late_j36, f_X11_late_j25, f_X11_late_j15, f_X11_late, f_X12_late, jn_e, lt_e, k_within, k_isIn, k_isGas, k_isRoom, k_isPipe, k_isPump, k_out, cl_s, cr_s, rf_1, rf_2, rf_4, rf_6, rf_0, e_no1, e_no2, e_no3, e_no4, e_no6, e_no7, e_refuse1, e_refuse2, e_refuse3, e_refuse4, e_refuse6, e_refuse7, n1z, n2z, n3z, n4z, n6z, z0z, z1z, i32_lt, i32_le, Int.reduceAdd, Int.reduceSub, if_true, if_false, l_0, l_8, l_20, d_0, d_7, d_20, ile]
  by_cases h1 : 0 ≤ a.toInt ∧ a.toInt < 8
  · simp only [if_pos h1]
    by_cases h2 : b.toInt < 0
    · simp only [if_pos h2, ite_self]; exact ok_ref h
    by_cases h3 : 20 < b.toInt
    · simp only [if_neg h2, if_pos h3]; exact ok_ref h
    simp only [if_neg h2, if_neg h3]
    rw [ldI_ok h1.1 h1.2, ldI_ok h1.1 h1.2, stI_ok h1.1 h1.2, stI_ok h1.1 h1.2]
    obtain ⟨hF, hP, hG, hA, hT, hU, hg, hc, hs, hd, ho⟩ := h
    obtain ⟨s1, ⟨s2, s2'⟩, s3, s4⟩ := hs
    refine ⟨_, sI σ 78 a.toNatClampNeg b, sI τ 143 a.toNatClampNeg b, rfl, by rw [s2], hF, hP, RG_mono (Nat.le_succ n) hG, hA, hT, hU, hg, hc, ⟨s1, ⟨?_, s2'⟩, bd_upd s3 ⟨by omega, by omega⟩ _, s4⟩, hd, ho⟩
    show upd (σ.1 78) _ b = upd (τ.1 143) _ b
    rw [s2]
  · simp only [if_neg h1, ite_self]; exact ok_ref h
theorem st_reading (n : Nat) (a b : Int32) {σ τ : Hp} (h : RR n σ τ) : Ok32 n (f_X11_reading a b σ) (f_X12_reading a b τ) := by
  simp only [f_X11_reading_j37, f_X11_reading_j25, f_X11_reading_j14, f_X11_reading, f_X12_reading, jn_e, lt_e, k_within, k_isIn, k_isGas, k_isRoom, k_isPipe, k_isPump, k_out, cl_s, cr_s, rf_1, rf_2, rf_4, rf_6, rf_0, e_no1, e_no2, e_no3, e_no4, e_no6, e_no7, e_refuse1, e_refuse2, e_refuse3, e_refuse4, e_refuse6, e_refuse7, n1z, n2z, n3z, n4z, n6z, z0z, z1z, i32_lt, i32_le, Int.reduceAdd, Int.reduceSub, if_true, if_false, l_0, l_3, l_9999, l_m1, d_0, d_2, d_9999, d_m1, ile]
  by_cases h1 : 0 ≤ a.toInt ∧ a.toInt < 3
  · simp only [if_pos h1]
    by_cases h2 : b.toInt < -1
    · simp only [if_pos h2, ite_self]; exact ok_ref h
    by_cases h3 : 9999 < b.toInt
    · simp only [if_neg h2, if_pos h3]; exact ok_ref h
    simp only [if_neg h2, if_neg h3]
    rw [stI_ok h1.1 h1.2, stI_ok h1.1 h1.2]
    obtain ⟨hF, hP, hG, hA, hT, hU, hg, hc, hs, hd, ho⟩ := h
    obtain ⟨g1, g2, g3, g4⟩ := hg
    refine ⟨_, sI σ 69 a.toNatClampNeg b, sI τ 138 a.toNatClampNeg b, rfl, rfl, hF, hP, RG_mono (Nat.le_succ n) hG, hA, hT, hU, ⟨g1, ?_, g3, bd_upd g4 ⟨by omega, by omega⟩ _⟩, hc, hs, hd, ho⟩
    show upd (σ.1 69) _ b = upd (τ.1 138) _ b
    rw [g2]
  · simp only [if_neg h1, ite_self]; exact ok_ref h
theorem st_anew (n : Nat) {σ τ : Hp} (h : RR n σ τ) : Ok32 n (f_X11_anew σ) (f_X12_anew τ) := by
  simp only [f_X11_anew, f_X12_anew, lt_e]
  obtain ⟨hF, hP, hG, hA, hT, hU, hg, hc, hs, hd, ho⟩ := h
  obtain ⟨⟨s1, s1', s1'', s1'''⟩, s2, s3, s4⟩ := hs
  exact ⟨_, sI (sI σ 77 1 0) 77 4 0, sI (sI τ 86 75 0) 86 76 0, rfl, by rw [s1, s1'], hF, hP, RG_mono (Nat.le_succ n) hG, hA, hT, hU, hg, hc, ⟨⟨rfl, rfl, (show bd (0:Int32) 0 20 from ⟨by decide, by decide⟩), (show bd (0:Int32) 0 20 from ⟨by decide, by decide⟩)⟩, s2, s3, s4⟩, hd, ho⟩
