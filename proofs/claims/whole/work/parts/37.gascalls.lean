theorem n_of {a : Int32} (h : 0 ≤ a.toInt) : a = nI a.toInt.toNat := nI_of_toInt h
/-- the relation after the gas has moved -/
theorem RR_moved {n : Nat} {σ τ σ' τ' : Hp} (hn : n ≤ 512) (h : RR n σ τ) (h3 : σ.1 25 3 = 0) (h4 : σ.1 25 4 = 0) {x y : GS} {k : Nat} (hk : k ≤ 5000) (hx : σ.1 13 1 = nI x.2.2.2) (hx8 : x.2.2.2 < 256) (hG : GC 13 σ' y) (hM : GM τ' y) (hN : NI (plN σ) (99999 * n + 4995 * k) y) (hO : OU (plN σ) τ' y.1.2) (hs : ∀ j, y.2.2.2.testBit j = true → x.2.2.2.testBit j = true) (hz : ∀ j, y.1.1 j < 2147483648 ∧ y.2.1 j < 2147483648 ∧ y.1.2 j < 2147483648 ∧ y.2.2.1 j < 2147483648) (t1 : σ'.1 13 0 = nI k) (t2 : τ'.1 86 23 = nI k) (hc : KCk σ σ') (hm : KM τ τ') (gx : GC 13 σ x) (hh : hiE y x) (h20 : ∀ a, a ∈ [20, 21, 22, 23] → σ'.1 a = σ.1 a) : RR n σ' τ' := by
  obtain ⟨hB, hC, hPM⟩ := RR_pl h
  obtain ⟨G1, G2, G3, G4, G5⟩ := hG
  obtain ⟨M1, M2, M3, M4, M5⟩ := hM
  refine RR_parts h hc hm ?_ ?_ ?_
  · exact N_RG hC.2.2.2.2.2.2.2.2.2.2.2 hB.2.2.2.2.2.2.2.2.2 hC.1.2.2.1 hB.1.2.2.1 t1 hk t2 G1 M1 G2 M2 G3 M3 G4 M4 hn hz hN.1.1 hN.1.2 hO
  · exact RA_tick h.2.2.2.1 h3 h4 hx hx8 G5 M5 hN.2 hs
  · obtain ⟨x1, x2, x3, x4⟩ := h.2.2.2.2.2.2.2.2.2.2.2
    obtain ⟨g1, g2, g3, g4, -⟩ := gx
    obtain ⟨e1, e2, e3, e4⟩ := hh
    rw [h20 20 (by decide), h20 21 (by decide), h20 22 (by decide), h20 23 (by decide)]
    refine ⟨fun k hk => ?_, fun k hk => ?_, fun k hk => ?_, fun k hk => ?_⟩
    · rw [x1 k hk, show σ.1 14 = nrow x.1.1 from g1, show σ'.1 14 = nrow y.1.1 from G1, nrow_at, nrow_at, e1 k hk]
    · rw [x2 k hk, show σ.1 15 = nrow x.2.1 from g2, show σ'.1 15 = nrow y.2.1 from G2, nrow_at, nrow_at, e3 k hk]
    · rw [x3 k hk, show σ.1 16 = nrow x.1.2 from g3, show σ'.1 16 = nrow y.1.2 from G3, nrow_at, nrow_at, e2 k hk]
    · rw [x4 k hk, show σ.1 17 = nrow x.2.2.1 from g4, show σ'.1 17 = nrow y.2.2.1 from G4, nrow_at, nrow_at, e4 k hk]
theorem st_ticks (n : Nat) (hn : n < 512) (a : Int32) {σ τ : Hp} (h : RR n σ τ) : Ok32 n (f_X11_ticks a σ) (f_X12_ticks a τ) := by
  obtain ⟨x0, k0, t0, k1, t1, -⟩ := RR_gs h
  have e5 : ((5000 : Int32) - nI k0).toInt = 5000 - (k0 : Int) := by
    rw [subI (by rw [nI_toInt (by omega), l_5000]; omega) (by rw [nI_toInt (by omega), l_5000]; omega), nI_toInt (by omega), l_5000]
  simp only [f_X11_ticks_j81, f_X11_ticks_j40, f_X11_ticks_j35, f_X11_ticks_j13, f_X11_ticks, f_X12_ticks_j35, f_X12_ticks_j29, f_X12_ticks, f_X0_forget, f_X12_forgets, jn_e, lt_e, k_within, k_isIn, k_isGas, k_isRoom, k_isPipe, k_isPump, k_out, cl_s, cr_s, rf_1, rf_2, rf_4, rf_6, rf_0, e_no1, e_no2, e_no3, e_no4, e_no6, e_no7, e_refuse1, e_refuse2, e_refuse3, e_refuse4, e_refuse6, e_refuse7, n1z, n2z, n3z, n4z, n6z, z0z, z1z, i32_lt, i32_le, Int.reduceAdd, Int.reduceSub, if_true, if_false, t0, t1, e5, l_0, l_1, l_200, l_5000, ile]
  by_cases h1 : a.toInt < 1
  · simp only [if_pos h1, ite_self]; exact ok_ref h
  simp only [if_neg h1]
  by_cases h2 : 200 < a.toInt
  · simp only [if_pos h2]; exact ok_ref h
  simp only [if_neg h2]
  have e6 : (nI k0 + a).toInt = k0 + a.toInt := by
    rw [addI (by rw [nI_toInt (by omega)]; omega) (by rw [nI_toInt (by omega)]; omega), nI_toInt (by omega)]
  rw [e6]
  by_cases h3 : 5000 - (k0 : Int) < a.toInt
  · simp only [if_pos h3, if_pos (show 5000 < (k0 : Int) + a.toInt by omega)]; exact ok_ref h
  simp only [if_neg h3, if_neg (show ¬ 5000 < (k0 : Int) + a.toInt by omega)]
  have hf := RR_same (RR_forget h)
  obtain ⟨hB, hC, hM⟩ := RR_pl hf
  obtain ⟨x, k, u0, u1, u2, gc, gm, ni, ou, wn, hz⟩ := RR_gs hf
  have ek : k0 = k := (nI_eq (by omega) (by omega)).1 (t0.symm.trans u0)
  subst ek
  have ea := n_of (a := a) (by omega)
  generalize hm : a.toInt.toNat = m at ea
  subst ea
  have hm2 : m ≤ 200 := by rw [nI_toInt (by omega)] at h2; omega
  have hm3 : k0 + m ≤ 5000 := by rw [nI_toInt (by omega)] at h3; omega
  obtain ⟨σ', c1, c2, c3, c4⟩ := c_ticks hB hC (B := 99999 * (n + 1) + 4995 * k0) (m := m) (by omega) (by omega) ni wn gc u0 (f_X11_ticks_j81)
  obtain ⟨τ', d1, d2, d3, d4, d5⟩ := m_ticks hB hM (B := 99999 * (n + 1) + 4995 * k0) (m := m) (by omega) (by omega) ni wn gm ou u2
  obtain ⟨n1, n2, n3⟩ := nit_ok hB ni wn m
  rw [show 99999 * (n + 1) + 4995 * k0 + 4995 * m = 99999 * (n + 1) + 4995 * (k0 + m) by omega] at n1
  refine ⟨nI (k0 + m), σ', τ', ?_, d1, ?_⟩
  · rw [c1]
    unfold f_X11_ticks_j81
    rw [c3]
  · exact RR_moved (by omega) hf rfl rfl hm3 gc.2.2.2.2 ni.2 c2 d2 n1 d3 n3 (fun j => hi_bd (by omega) n1.1.1 (nit_hi hB x m) hz j) c3 d4 (KC_fr (by decide) c4) (KM_fm d5) gc (nit_hi hB x m) (fun a ha => c4 a (by revert ha; revert a; decide))
