/-! ===== bytes of a long ===== -/
theorem bvb (x : BitVec 64) (s : Nat) (hs : s ≤ 56) : x.sshiftRight s &&& 255#64 = x >>> s &&& 255#64 := by
  apply BitVec.eq_of_getLsbD_eq
  intro i hi
  rw [BitVec.getLsbD_and, BitVec.getLsbD_and]
  by_cases h8 : i < 8
  · rw [BitVec.getLsbD_sshiftRight, BitVec.getLsbD_ushiftRight, decide_eq_false (show ¬ 64 ≤ i by omega), if_pos (by omega)]
    rfl
  · have h : (255#64).getLsbD i = false := by
      show Nat.testBit 255 i = false
      exact tb_big (b := 8) (by omega) (by omega)
    rw [h, Bool.and_false, Bool.and_false]
theorem by_e (a : Int64) : ∀ k, k < 8 → ((a.toUInt64 >>> (((8 : Int32) * nI k).toInt64.toUInt64 &&& Int64.toUInt64 63)).toInt64 &&& (255 : Int64)) = ((a >>> (((8 : Int32) * nI k).toInt64 &&& 63)) &&& (255 : Int64)) := by
  intro k hk
  apply Int64.toBitVec_inj.1
  rw [Int64.toBitVec_and, Int64.toBitVec_and, Int64.toBitVec_shiftRight]
  show (a.toUInt64 >>> (((8 : Int32) * nI k).toInt64.toUInt64 &&& Int64.toUInt64 63)).toBitVec &&& (255 : Int64).toBitVec = _
  rw [UInt64.toBitVec_shiftRight]
  have hv : ∀ k, k < 8 → ((((8 : Int32) * nI k).toInt64.toUInt64 &&& Int64.toUInt64 63).toBitVec % 64) = BitVec.ofNat 64 (8 * k) ∧ ((((8 : Int32) * nI k).toInt64 &&& 63).toBitVec.smod 64) = BitVec.ofNat 64 (8 * k) := by decide +kernel
  rw [(hv k hk).1, (hv k hk).2, BitVec.sshiftRight_eq']
  have hn : (BitVec.ofNat 64 (8 * k)).toNat = 8 * k := by
    rw [BitVec.toNat_ofNat]
    omega
  rw [hn]
  show a.toBitVec >>> (BitVec.ofNat 64 (8 * k)) &&& 255#64 = a.toBitVec.sshiftRight (8 * k) &&& 255#64
  rw [bvb _ _ (by omega)]
  show a.toBitVec >>> (BitVec.ofNat 64 (8 * k)).toNat &&& 255#64 = _
  rw [hn]
theorem by_in (x : Int64) : ∃ j, j < 256 ∧ (x &&& (255 : Int64)).toInt32 = nI j := by
  refine ⟨x.toBitVec.toNat % 256, Nat.mod_lt _ (by omega), ?_⟩
  rw [← lN_i]
  congr 1
  apply Int64.toBitVec_inj.1
  apply BitVec.eq_of_toNat_eq
  rw [Int64.toBitVec_and, BitVec.toNat_and]
  show x.toBitVec.toNat &&& 255 = (BitVec.ofNat 64 (x.toBitVec.toNat % 256)).toNat
  rw [BitVec.toNat_ofNat, show (255 : Nat) = 2 ^ 8 - 1 from rfl, Nat.and_two_pow_sub_one_eq_mod]
  omega
/-- the text after some bytes -/
def fdN (a : Int64) (c : Nat → Int32) (L : Nat) : Nat → Nat → Int32
  | 0 => c
  | k + 1 => upd (fdN a c L k) (L + k) ((a >>> (((8 : Int32) * nI k).toInt64 &&& 63)) &&& (255 : Int64)).toInt32
theorem fdN_bd {a : Int64} {c : Nat → Int32} {L : Nat} (h : ∀ k, bd (c k) 0 255) : ∀ k j, bd (fdN a c L k j) 0 255
  | 0, j => h j
  | k + 1, j => by
    unfold fdN
    refine bd_upd (fdN_bd h k) ?_ _ j
    obtain ⟨q, h1, h2⟩ := by_in (a >>> (((8 : Int32) * nI k).toInt64 &&& 63))
    rw [h2]
    exact ⟨by rw [nI_toInt (by omega)]; omega, by rw [nI_toInt (by omega)]; omega⟩
theorem c_take {a : Int64} {σ : Hp} {L m : Nat} (hm : m ≤ 8) (hL : L + m ≤ 40) (h1 : σ.1 29 1 = nI L) : ∃ σ', f_X6_take (nI m) a σ = some (nI (L + m), σ') ∧ σ'.1 30 = fdN a (σ.1 30) L m ∧ σ'.1 29 1 = nI (L + m) ∧ fr [29, 30] σ σ' := by
  refine lp_h (Q := fun r => ∃ σ', r = some (nI (L + m), σ') ∧ σ'.1 30 = fdN a (σ.1 30) L m ∧ σ'.1 29 1 = nI (L + m) ∧ fr [29, 30] σ σ') m (fun k ρ => ρ.1 30 = fdN a (σ.1 30) L k ∧ ρ.1 29 1 = nI (L + k) ∧ fr [29, 30] σ ρ) ?_ ?_ (by omega) ⟨rfl, h1, fr_0 _ _⟩
  · rintro k ρ hk ⟨g1, g2, g3⟩ K
    refine ⟨sI (sI ρ 30 (L + k) ((a >>> (((8 : Int32) * nI k).toInt64 &&& 63)) &&& (255 : Int64)).toInt32) 29 1 (nI (L + (k + 1))), ⟨?_, rfl, fr_s (by decide) (fr_s (by decide) g3)⟩, ?_⟩
    · show upd (ρ.1 30) _ _ = _
      rw [g1]; rfl
    · simp (disch := omega) only [f_X6_take_l3, le_f, g2, show (40 : Int32) = nI 40 from rfl, by_e a k (by omega), stI_n, sI_1, reduceIte, Nat.reduceEqDiff, lt_e, nI_1]
      rfl
  · rintro ρ ⟨g1, g2, g3⟩ K
    refine ⟨ρ, ?_, g1, g2, g3⟩
    simp (disch := omega) only [f_X6_take_l3, le_t, g2]
theorem m_feed {a : Int64} {τ : Hp} {L m : Nat} (hm : m ≤ 8) (hL : L + m ≤ 40) (h1 : τ.1 86 37 = nI L) : ∃ τ', lp (f_X12_feed_l46 (nI m) a) FU ((0 : Int32), τ) = some (nI (L + m), τ') ∧ τ'.1 115 = fdN a (τ.1 115) L m ∧ τ'.1 86 37 = nI (L + m) ∧ (∀ j, j ≠ 37 → τ'.1 86 j = τ.1 86 j) ∧ fr [86, 115] τ τ' := by
  refine lp_h (Q := fun r => ∃ τ', r = some (nI (L + m), τ') ∧ τ'.1 115 = fdN a (τ.1 115) L m ∧ τ'.1 86 37 = nI (L + m) ∧ (∀ j, j ≠ 37 → τ'.1 86 j = τ.1 86 j) ∧ fr [86, 115] τ τ') m (fun k ρ => ρ.1 115 = fdN a (τ.1 115) L k ∧ ρ.1 86 37 = nI (L + k) ∧ (∀ j, j ≠ 37 → ρ.1 86 j = τ.1 86 j) ∧ fr [86, 115] τ ρ) ?_ ?_ (by omega) ⟨rfl, h1, fun _ _ => rfl, fr_0 _ _⟩
  · rintro k ρ hk ⟨g1, g2, g4, g3⟩ K
    refine ⟨sI (sI ρ 115 (L + k) ((a >>> (((8 : Int32) * nI k).toInt64 &&& 63)) &&& (255 : Int64)).toInt32) 86 37 (nI (L + (k + 1))), ⟨?_, rfl, fun j hj => ?_, fr_s (by decide) (fr_s (by decide) g3)⟩, ?_⟩
    · show upd (ρ.1 115) _ _ = _
      rw [g1]; rfl
    · show upd (ρ.1 86) 37 (nI (L + (k + 1))) j = _
      rw [pk_un hj]; exact g4 j hj
    · simp (disch := omega) only [f_X12_feed_l46, le_f, g2, stI_n, sI_1, reduceIte, Nat.reduceEqDiff, lt_e, nI_1]
      rfl
  · rintro ρ ⟨g1, g2, g4, g3⟩ K
    refine ⟨ρ, ?_, g1, g2, g4, g3⟩
    simp (disch := omega) only [f_X12_feed_l46, le_t, g2]
theorem st_feed (n : Nat) (a : Int32) (b : Int64) {σ τ : Hp} (h : RR n σ τ) : Ok32 n (f_X11_feed a b σ) (f_X12_feed a b τ) := by
  obtain ⟨hF, hP, hG, hA, hT, hR⟩ := id h
  obtain ⟨t1, t2, t3, t4⟩ := hT
  have eL := n_of t2.1
  generalize hLL : (σ.1 29 1).toInt.toNat = L at eL
  have hL : L ≤ 40 := by have := t2.2; omega
  have eM : τ.1 86 37 = nI L := by rw [← t1]; exact eL
  have e5 : ((40 : Int32) - nI L).toInt = 40 - (L : Int) := by
    rw [subI (by rw [nI_toInt (by omega), l_40]; omega) (by rw [nI_toInt (by omega), l_40]; omega), nI_toInt (by omega), l_40]
  simp only [f_X11_feed, f_X11_feed_j62, f_X11_feed_j38, f_X11_feed_j33, f_X11_feed_j13, f_X12_feed, f_X12_feed_j31, jn_e, lt_e, k_within, k_isIn, k_isGas, k_isRoom, k_isPipe, k_isPump, k_out, cl_s, cr_s, rf_1, rf_2, rf_4, rf_6, rf_0, e_no1, e_no2, e_no3, e_no4, e_no6, e_no7, e_refuse1, e_refuse2, e_refuse3, e_refuse4, e_refuse6, e_refuse7, n1z, n2z, n3z, n4z, n6z, z0z, z1z, i32_lt, i32_le, Int.reduceAdd, Int.reduceSub, if_true, if_false, eL, eM, e5, l_1, l_8, l_40, d_1, d_8, ile]
  by_cases h1 : a.toInt < 1
  · simp only [if_pos h1, ite_self]; exact ok_ref h
  simp only [if_neg h1]
  by_cases h2 : 8 < a.toInt
  · simp only [if_pos h2]; exact ok_ref h
  simp only [if_neg h2]
  have e6 : (nI L + a).toInt = L + a.toInt := by
    rw [addI (by rw [nI_toInt (by omega)]; omega) (by rw [nI_toInt (by omega)]; omega), nI_toInt (by omega)]
  rw [e6]
  by_cases h3 : 40 - (L : Int) < a.toInt
  · simp only [if_pos h3, if_pos (show 40 < (L : Int) + a.toInt by omega)]; exact ok_ref h
  simp only [if_neg h3, if_neg (show ¬ 40 < (L : Int) + a.toInt by omega)]
  have ea := n_of (a := a) (by omega)
  generalize hk0 : a.toInt.toNat = m at ea
  subst ea
  have hm : m ≤ 8 := by omega
  have hLm : L + m ≤ 40 := by omega
  obtain ⟨σ1, a1, a2, a3, a4⟩ := c_take (a := b) hm hLm eL
  obtain ⟨τ1, b1, b2, b3, b4, b5⟩ := m_feed (a := b) hm hLm eM
  rw [a1, b1, cl_s]
  refine ⟨_, σ1, τ1, rfl, rfl, ?_⟩
  obtain ⟨qF, qP, qG, qA, qT, qU, qg, qc, qs, qd, qo⟩ := RR_same h
  have kc : ∀ q, q ≠ 29 → q ≠ 30 → σ1.1 q = σ.1 q := fun q h1 h2 => a4 q (by simp only [List.mem_cons, List.not_mem_nil, or_false]; omega)
  have km : ∀ q, q ≠ 86 → q ≠ 115 → τ1.1 q = τ.1 q := fun q h1 h2 => b5 q (by simp only [List.mem_cons, List.not_mem_nil, or_false]; omega)
  have bL : bd (nI (L + m)) 0 40 := ⟨by rw [nI_toInt (by omega)]; omega, by rw [nI_toInt (by omega)]; omega⟩
  unfold RR
  simp (disch := decide) only [kc, km, b4, a2, a3, b2, b3]
  refine ⟨qF, qP, qG, qA, ?_, qU, qg, qc, qs, qd, qo⟩
  exact ⟨rfl, bL, by rw [t3], fun j => fdN_bd t4 m j⟩
