def lett (f : Nat) : Int32 := if f = 0 then 114 else if f = 1 then 119 else if f = 2 then 118 else if f = 3 then 112 else 116
theorem bN_ld {α : Type} (m w : Nat) (K : Int32 → Option α) : (if bN m w = 0 then K 0 else K 1) = K (bN m w) := by
  unfold bN
  cases m.testBit w <;> rfl
/-- a fact, as both know it -/
theorem fact_e {mo : Nat} {σ ρ : Hp} (h : RW mo σ ρ) {f w : Nat} (hf : f < 5) (hw : w < 10) : ∃ v, v < 2147483648 ∧ (∀ c, c >>> ((5 : Int32) &&& 31) &&& 15 = nI w → c >>> ((2 : Int32) &&& 31) &&& 7 = nI f → f_X8_compares c (nI mo) σ = f_X8_compares_j144 c (nI v)) ∧ f_X12_fact (lett f) (nI w) ρ = some (nI v) := by
  obtain ⟨pl, x, k, ⟨hB, hC, hM⟩, ⟨m1, m2, m3⟩, ⟨g1, g2, l1⟩, ⟨u0, u1, u2⟩, hU⟩ := h
  have b0 := hB.1.1
  have b1 := hB.1.2.1
  have b2 := hB.1.2.2.1
  have e0 : σ.1 1 0 = nI (pl 1 0) := hC.1.1
  have e20 : ρ.1 86 20 = nI (pl 1 0) := hM.1.1
  have e21 : ρ.1 86 21 = nI (pl 1 6) := hM.1.2.1
  have e22 : ρ.1 86 22 = nI (pl 1 11) := hM.1.2.2.1
  have i0 : (nI w).toInt = (w : Int) := nI_toInt (by omega)
  have i20 : (nI (pl 1 0)).toInt = (pl 1 0 : Int) := nI_toInt (by omega)
  have i21 : (nI (pl 1 6)).toInt = (pl 1 6 : Int) := nI_toInt (by omega)
  have i22 : (nI (pl 1 11)).toInt = (pl 1 11 : Int) := nI_toInt (by omega)
  have hcmp : ∀ c, c >>> ((5 : Int32) &&& 31) &&& 15 = nI w → c >>> ((2 : Int32) &&& 31) &&& 7 = nI f → f_X8_compares c (nI mo) σ = (if nI f = 0 then (if nI (pl 1 0) ≤ nI w then f_X8_compares_j144 c 0 else cr (f_X4_push 13 (nI w) σ) fun v8 => f_X8_compares_j144 c v8) else if nI f = 1 then (if nI (pl 1 0) ≤ nI w then f_X8_compares_j144 c 0 else ldI σ 4 5 (nI w) fun v10 => f_X8_compares_j144 c v10) else if nI f = 2 then f_X8_compares_j144 c ((σ.1 1 10 >>> (nI w &&& 31)) &&& 1) else if nI f = 3 then f_X8_compares_j144 c ((nI mo >>> (nI w &&& 31)) &&& 1) else f_X8_compares_j144 c (σ.1 13 0)) := fun c h1 h2 => by
    unfold f_X8_compares f_X8_compares_j75 f_X8_compares_j104
    rw [lt_e, jn_e, h1, h2, jn_e, jn_e, e0, lt_e, lt_e, lt_e]
  match f, hf with
  | 0, _ =>
    by_cases h1 : w < pl 1 0
    · refine ⟨psN (pl) x w, by have := psN_lt (pl) x w; omega, fun c hc1 hc2 => ?_, ?_⟩
      · rw [hcmp c hc1 hc2, if_pos (show nI 0 = (0 : Int32) from rfl), le_f h1 (by omega), c_push13 hB hC g1 l1 h1, cr_s]
      · show f_X12_fact 114 _ _ = _
        unfold f_X12_fact f_X12_fact_j65
        rw [if_neg (by decide), if_neg (by decide), if_pos rfl, k_isRoom, i0, e20, i20, if_pos (by omega), jn_e, z1z, m_push (plon_B hB m1) hM g2 l1 h1, cr_s]; rfl
    · refine ⟨0, by omega, fun c hc1 hc2 => ?_, ?_⟩
      · rw [hcmp c hc1 hc2, if_pos (show nI 0 = (0 : Int32) from rfl), le_t (by omega) (by omega)]; rfl
      · show f_X12_fact 114 _ _ = _
        unfold f_X12_fact f_X12_fact_j65
        rw [if_neg (by decide), if_neg (by decide), if_pos rfl, k_isRoom, i0, e20, i20, if_neg (by omega), jn_e, z0z]; rfl
  | 1, _ =>
    by_cases h1 : w < pl 1 0
    · have e4 : σ.1 4 w = nI (pl 4 w) := hC.2.2.2.1 w
      have e90 : ρ.1 90 w = nI (pl 4 w) := hM.2.2.2.1 w
      have b4 := hB.2.2.2.1 w
      refine ⟨pl 4 w, by omega, fun c hc1 hc2 => ?_, ?_⟩
      · rw [hcmp c hc1 hc2, if_neg (by decide), if_pos (show nI 1 = (1 : Int32) from rfl), le_f h1 (by omega), ldI_n (by omega) (by omega), e4]
      · show f_X12_fact 119 _ _ = _
        unfold f_X12_fact f_X12_fact_j84
        rw [if_neg (by decide), if_neg (by decide), if_neg (by decide), if_neg (by decide), if_neg (by decide), if_neg (by decide), if_neg (by decide), if_pos rfl, k_isRoom, i0, e20, i20, if_pos (by omega), jn_e, z1z, ldI_n (by omega) (by omega), e90]
    · refine ⟨0, by omega, fun c hc1 hc2 => ?_, ?_⟩
      · rw [hcmp c hc1 hc2, if_neg (by decide), if_pos (show nI 1 = (1 : Int32) from rfl), le_t (by omega) (by omega)]; rfl
      · show f_X12_fact 119 _ _ = _
        unfold f_X12_fact f_X12_fact_j84
        rw [if_neg (by decide), if_neg (by decide), if_neg (by decide), if_neg (by decide), if_neg (by decide), if_neg (by decide), if_neg (by decide), if_pos rfl, k_isRoom, i0, e20, i20, if_neg (by omega), jn_e, z0z]; rfl
  | 2, _ =>
    have s1 : pl 1 10 < 2 ^ 12 := hB.1.2.2.2.1
    have o1 : σ.1 1 10 = nI (pl 1 10) := hC.1.2.2.2.1
    have o2 : ρ.1 104 w = bN (pl 1 10) w := hM.1.2.2.2.1 w
    have ob : bN (pl 1 10) w = nI (if (pl 1 10).testBit w then 1 else 0) := by unfold bN; cases (pl 1 10).testBit w <;> rfl
    refine ⟨if (pl 1 10).testBit w then 1 else 0, by split <;> omega, fun c hc1 hc2 => ?_, ?_⟩
    · rw [hcmp c hc1 hc2, if_neg (by decide), if_neg (by decide), if_pos (show nI 2 = (2 : Int32) from rfl), o1, bitC (by omega) (by omega), ← ob]; rfl
    · show f_X12_fact 118 _ _ = _
      unfold f_X12_fact f_X12_fact_j107 f_X12_fact_j106
      rw [if_neg (by decide), if_neg (by decide), if_neg (by decide), if_neg (by decide), if_neg (by decide), if_neg (by decide), if_pos rfl, k_isPipe, i0, e21, i21, ← ob]
      by_cases h1 : w < pl 1 6
      · rw [if_pos (by omega), jn_e, jn_e, z1z, ldI_n (by omega) (by omega), o2]
        exact bN_ld _ _ (fun x => some x)
      · rw [if_neg (by omega), jn_e, jn_e, z0z]
        have hz2 : (pl 1 10).testBit w = false := m3 w (by omega)
        unfold bN
        rw [hz2]; rfl
  | 3, _ =>
    have o2 : ρ.1 105 w = bN mo w := hM.1.2.2.2.2 w
    have ob : bN mo w = nI (if mo.testBit w then 1 else 0) := by unfold bN; cases mo.testBit w <;> rfl
    refine ⟨if mo.testBit w then 1 else 0, by split <;> omega, fun c hc1 hc2 => ?_, ?_⟩
    · rw [hcmp c hc1 hc2, if_neg (by decide), if_neg (by decide), if_neg (by decide), if_pos (show nI 3 = (3 : Int32) from rfl), bitC (by omega) (by omega), ← ob]; rfl
    · show f_X12_fact 112 _ _ = _
      unfold f_X12_fact f_X12_fact_j130 f_X12_fact_j129
      rw [if_pos rfl, k_isPump, i0, e22, i22, ← ob]
      by_cases h1 : w < pl 1 11
      · rw [if_pos (by omega), jn_e, jn_e, z1z, ldI_n (by omega) (by omega), o2]
        exact bN_ld _ _ (fun x => some x)
      · rw [if_neg (by omega), jn_e, jn_e, z0z]
        have hz2 : mo.testBit w = false := m2 w (by omega)
        unfold bN
        rw [hz2]; rfl
  | 4, _ =>
    refine ⟨k, by omega, fun c hc1 hc2 => ?_, ?_⟩
    · rw [hcmp c hc1 hc2, if_neg (by decide), if_neg (by decide), if_neg (by decide), if_neg (by decide), u0]
    · show f_X12_fact 116 _ _ = _
      unfold f_X12_fact
      rw [if_neg (by decide), if_neg (by decide), if_neg (by decide), if_neg (by decide), if_pos rfl, u2]
  | f + 5, hf => exact absurd hf (by omega)
