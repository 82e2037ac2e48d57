/-! ===== a rule struck ===== -/
theorem clr_n (s : Nat) (hs : s < 2 ^ 16) : ∀ r, r < 16 → (nI s &&& (((1 : Int32) <<< (nI r &&& 31)) ^^^ (-1 : Int32))) = nI (s &&& (2 ^ 32 - (2 ^ r + 1))) := by
  intro r hr
  have hv : ∀ r, r < 16 → (((1 : Int32) <<< (nI r &&& 31)) ^^^ (-1 : Int32)) = nI (2 ^ 32 - (2 ^ r + 1)) := by decide +kernel
  rw [hv r hr, nI_and (Nat.lt_trans hs (by decide)) (Nat.sub_lt (by decide) (Nat.succ_pos _))]
theorem clr_t (s : Nat) (hs : s < 2 ^ 16) (r : Nat) (hr : r < 16) (k : Nat) : (s &&& (2 ^ 32 - (2 ^ r + 1))).testBit k = (s.testBit k && !decide (k = r)) := by
  rw [Nat.testBit_and, Nat.testBit_two_pow_sub_succ (Nat.pow_lt_pow_right (by omega) (by omega)), Nat.testBit_two_pow]
  by_cases hk : k < 16
  · rw [decide_eq_true (show k < 32 by omega), Bool.true_and]
    congr 2
    exact decide_eq_decide.2 eq_comm
  · rw [tb_big hs (by omega), Bool.false_and, Bool.false_and]
theorem st_unrule (n : Nat) (a : Int32) {σ τ : Hp} (h : RR n σ τ) : Ok32 n (f_X11_unrule a σ) (f_X12_unrule a τ) := by
  obtain ⟨hF, hP, hG, hA, hT, hU, hR⟩ := id h
  obtain ⟨u1, u2, s, p, u3, u4, u5, u6, u7, u8⟩ := hU
  have e5 : (τ.1 86 38 - 1).toInt64.toInt = (σ.1 32 2).toInt - 1 := by
    rw [← u1, Int32.toInt_toInt64, subI (by rw [l_1]; have := u2.1; omega) (by rw [l_1]; have := u2.2; omega), l_1]
  simp only [f_X11_unrule, f_X11_unrule_j25, f_X12_unrule, f_X12_unrule_j25, f_X8_stands, f_X8_stands_j17, f_X8_drop, jn_e, lt_e, k_within, k_isIn, k_isGas, k_isRoom, k_isPipe, k_isPump, k_out, cl_s, cr_s, rf_1, rf_2, rf_4, rf_6, rf_0, e_no1, e_no2, e_no3, e_no4, e_no6, e_no7, e_refuse1, e_refuse2, e_refuse3, e_refuse4, e_refuse6, e_refuse7, n1z, n2z, n3z, n4z, n6z, z0z, z1z, i32_lt, i32_le, Int.reduceAdd, Int.reduceSub, if_true, if_false, e5, u3, l_0, d_0]
  by_cases h1 : 0 ≤ a.toInt ∧ a.toInt < (σ.1 32 2).toInt
  · simp only [if_pos h1, if_pos (show 0 ≤ a.toInt ∧ a.toInt < (σ.1 32 2).toInt - 1 + 1 by omega)]
    have ea := n_of h1.1
    generalize hk0 : a.toInt.toNat = r at ea
    subst ea
    have hr : r < 16 := by have := u2.2; omega
    have hr' : (r : Int) < (σ.1 32 2).toInt := by have := h1.2; rw [nI_toInt (by omega)] at this; exact this
    obtain ⟨v1, v2⟩ := u8 r hr'
    simp (disch := omega) only [ldI_n, stZ_n, v1]
    rw [bit1 (by omega) (by omega)]
    by_cases hs : s.testBit r = true
    · simp only [hs, if_true, ckZ_1, cr_s, z1z, z0z, if_false]
      rw [clr_n s u5 r hr]
      refine ⟨_, sI σ 32 3 (nI (s &&& (2 ^ 32 - (2 ^ r + 1)))), sI τ 119 r 1, rfl, rfl, hF, hP, RG_mono (Nat.le_succ n) hG, hA, hT, ?_, hR⟩
      have hle : s &&& (2 ^ 32 - (2 ^ r + 1)) ≤ s := Nat.and_le_left
      refine ⟨u1, u2, _, p, rfl, u4, Nat.lt_of_le_of_lt hle u5, u6, fun k hk => ⟨?_, (u7 k hk).2⟩, fun q hq => ?_⟩
      · rw [clr_t s u5 r hr, (u7 k hk).1, Bool.false_and]
      · obtain ⟨w1, w2⟩ := u8 q hq
        refine ⟨?_, w2⟩
        show upd (τ.1 119) r 1 q = _
        rw [clr_t s u5 r hr]
        by_cases e : q = r
        · subst e
          rw [decide_eq_true rfl]
          simp only [upd, if_true, Bool.not_true, Bool.and_false, Bool.false_eq_true, if_false]
        · rw [pk_un e, w1, decide_eq_false e, Bool.not_false, Bool.and_true]
    · simp only [if_neg hs, ckZ_0, cr_s, z0z, z1z, if_true, if_false]
      exact ok_ref h
  · simp only [if_neg h1, if_neg (show ¬ (0 ≤ a.toInt ∧ a.toInt < (σ.1 32 2).toInt - 1 + 1) by omega), z0z, if_true]
    exact ok_ref h
