def lett (f : Nat) : Int32 := if f = 0 then 114 else if f = 1 then 119 else if f = 2 then 118 else if f = 3 then 112 else 116
theorem bN_ld {α : Type} (m w : Nat) (K : Int32 → Option α) : (if bN m w = 0 then K 0 else K 1) = K (bN m w) := by
  unfold bN
  cases m.testBit w <;> rfl
/-- a fact, as both know it -/
theorem fact_e {n : Nat} (hn : n < 512) {σ ρ : Hp} (h : RR n σ ρ) {f w : Nat} (hf : f < 5) (hw : w < 10) : ∃ v, v < 2147483648 ∧ (∀ c, c >>> ((5 : Int32) &&& 31) &&& 15 = nI w → c >>> ((2 : Int32) &&& 31) &&& 7 = nI f → f_X8_compares c (σ.1 1 15) σ = f_X8_compares_j144 c (nI v)) ∧ f_X12_fact (lett f) (nI w) ρ = some (nI v) := by
  obtain ⟨hB, hC, hM⟩ := RR_pl h
  obtain ⟨x, k, u0, u1, u2, gc, gm, ni, ou, wn, hz⟩ := RR_gs h
  obtain ⟨l1, l2, l3, l4⟩ := GS_lt ni (by omega)
  have g1 : σ.1 14 = nrow x.1.1 := gc.1
  have g2 : ρ.1 99 = nrow x.1.1 := gm.1
  have b0 := hB.1.1
  have b1 := hB.1.2.1
  have b2 := hB.1.2.2.1
  have e0 : σ.1 1 0 = nI (plN σ 1 0) := hC.1.1
  have e20 : ρ.1 86 20 = nI (plN σ 1 0) := hM.1.1
  have e21 : ρ.1 86 21 = nI (plN σ 1 6) := hM.1.2.1
  have e22 : ρ.1 86 22 = nI (plN σ 1 11) := hM.1.2.2.1
  have i0 : (nI w).toInt = (w : Int) := nI_toInt (by omega)
  have i20 : (nI (plN σ 1 0)).toInt = (plN σ 1 0 : Int) := nI_toInt (by omega)
  have i21 : (nI (plN σ 1 6)).toInt = (plN σ 1 6 : Int) := nI_toInt (by omega)
  have i22 : (nI (plN σ 1 11)).toInt = (plN σ 1 11 : Int) := nI_toInt (by omega)
  have hcmp : ∀ c, c >>> ((5 : Int32) &&& 31) &&& 15 = nI w → c >>> ((2 : Int32) &&& 31) &&& 7 = nI f → f_X8_compares c (σ.1 1 15) σ = (if nI f = 0 then (if nI (plN σ 1 0) ≤ nI w then f_X8_compares_j144 c 0 else cr (f_X4_push 13 (nI w) σ) fun v8 => f_X8_compares_j144 c v8) else if nI f = 1 then (if nI (plN σ 1 0) ≤ nI w then f_X8_compares_j144 c 0 else ldI σ 4 5 (nI w) fun v10 => f_X8_compares_j144 c v10) else if nI f = 2 then f_X8_compares_j144 c ((σ.1 1 10 >>> (nI w &&& 31)) &&& 1) else if nI f = 3 then f_X8_compares_j144 c ((σ.1 1 15 >>> (nI w &&& 31)) &&& 1) else f_X8_compares_j144 c (σ.1 13 0)) := fun c h1 h2 => by
    unfold f_X8_compares f_X8_compares_j75 f_X8_compares_j104
    rw [lt_e, jn_e, h1, h2, jn_e, jn_e, e0, lt_e, lt_e, lt_e]
  match f, hf with
  | 0, _ =>
    by_cases h1 : w < plN σ 1 0
    · refine ⟨psN (plN σ) x.1.1 w, by have := psN_lt (plN σ) x.1.1 w; omega, fun c hc1 hc2 => ?_, ?_⟩
      · rw [hcmp c hc1 hc2, if_pos (show nI 0 = (0 : Int32) from rfl), le_f h1 (by omega), c_push13 hB hC g1 l1 h1, cr_s]
      · show f_X12_fact 114 _ _ = _
        unfold f_X12_fact f_X12_fact_j65
        rw [if_neg (by decide), if_neg (by decide), if_pos rfl, k_isRoom, i0, e20, i20, if_pos (by omega), jn_e, z1z, m_push hB hM g2 l1 h1, cr_s]
    · refine ⟨0, by omega, fun c hc1 hc2 => ?_, ?_⟩
      · rw [hcmp c hc1 hc2, if_pos (show nI 0 = (0 : Int32) from rfl), le_t (by omega) (by omega)]; rfl
      · show f_X12_fact 114 _ _ = _
        unfold f_X12_fact f_X12_fact_j65
        rw [if_neg (by decide), if_neg (by decide), if_pos rfl, k_isRoom, i0, e20, i20, if_neg (by omega), jn_e, z0z]; rfl
  | 1, _ =>
    by_cases h1 : w < plN σ 1 0
    · have e4 : σ.1 4 w = nI (plN σ 4 w) := hC.2.2.2.1 w
      have e90 : ρ.1 90 w = nI (plN σ 4 w) := hM.2.2.2.1 w
      have b4 := hB.2.2.2.1 w
      refine ⟨plN σ 4 w, by omega, fun c hc1 hc2 => ?_, ?_⟩
      · rw [hcmp c hc1 hc2, if_neg (by decide), if_pos (show nI 1 = (1 : Int32) from rfl), le_f h1 (by omega), ldI_n (by omega) (by omega), e4]
      · show f_X12_fact 119 _ _ = _
        unfold f_X12_fact f_X12_fact_j84
        rw [if_neg (by decide), if_neg (by decide), if_neg (by decide), if_neg (by decide), if_neg (by decide), if_neg (by decide), if_neg (by decide), if_pos rfl, k_isRoom, i0, e20, i20, if_pos (by omega), jn_e, z1z, ldI_n (by omega) (by omega), e90]
    · refine ⟨0, by omega, fun c hc1 hc2 => ?_, ?_⟩
      · rw [hcmp c hc1 hc2, if_neg (by decide), if_pos (show nI 1 = (1 : Int32) from rfl), le_t (by omega) (by omega)]; rfl
      · show f_X12_fact 119 _ _ = _
        unfold f_X12_fact f_X12_fact_j84
        rw [if_neg (by decide), if_neg (by decide), if_neg (by decide), if_neg (by decide), if_neg (by decide), if_neg (by decide), if_neg (by decide), if_pos rfl, k_isRoom, i0, e20, i20, if_neg (by omega), jn_e, z0z]; rfl
  | 2, _ =>
    have s1 : plN σ 1 10 < 2 ^ 12 := hB.1.2.2.2.1
    have o1 : σ.1 1 10 = nI (plN σ 1 10) := hC.1.2.2.2.1
    have o2 : ρ.1 104 w = bN (plN σ 1 10) w := hM.1.2.2.2.1 w
    have ob : bN (plN σ 1 10) w = nI (if (plN σ 1 10).testBit w then 1 else 0) := by unfold bN; cases (plN σ 1 10).testBit w <;> rfl
    refine ⟨if (plN σ 1 10).testBit w then 1 else 0, by split <;> omega, fun c hc1 hc2 => ?_, ?_⟩
    · rw [hcmp c hc1 hc2, if_neg (by decide), if_neg (by decide), if_pos (show nI 2 = (2 : Int32) from rfl), o1, bitC (by omega) (by omega), ← ob]; rfl
    · show f_X12_fact 118 _ _ = _
      unfold f_X12_fact f_X12_fact_j107 f_X12_fact_j106
      rw [if_neg (by decide), if_neg (by decide), if_neg (by decide), if_neg (by decide), if_neg (by decide), if_neg (by decide), if_pos rfl, k_isPipe, i0, e21, i21, ← ob]
      by_cases h1 : w < plN σ 1 6
      · rw [if_pos (by omega), jn_e, jn_e, z1z, ldI_n (by omega) (by omega), o2]
        exact bN_ld _ _ (fun x => some x)
      · rw [if_neg (by omega), jn_e, jn_e, z0z]
        obtain ⟨-, -, -, hA, -⟩ := h
        obtain ⟨d, u, -, so, sn, sw, ⟨a1, -⟩, -, a5, -⟩ := hA
        obtain ⟨c1, -, -, c4, -⟩ := a5 d (by omega)
        have hz2 : (so d).testBit w = false := c4 w (by rw [hC.1.2.1, i21]; omega)
        have : plN σ 1 10 = so d := by
          have e := o1.symm.trans a1
          exact (nI_eq (by omega) (by omega)).1 e
        unfold bN
        rw [this, hz2]; rfl
  | 3, _ =>
    have s1 : plN σ 1 15 < 2 ^ 8 := hB.1.2.2.2.2
    have o1 : σ.1 1 15 = nI (plN σ 1 15) := hC.1.2.2.2.2
    have o2 : ρ.1 105 w = bN (plN σ 1 15) w := hM.1.2.2.2.2 w
    have ob : bN (plN σ 1 15) w = nI (if (plN σ 1 15).testBit w then 1 else 0) := by unfold bN; cases (plN σ 1 15).testBit w <;> rfl
    refine ⟨if (plN σ 1 15).testBit w then 1 else 0, by split <;> omega, fun c hc1 hc2 => ?_, ?_⟩
    · rw [hcmp c hc1 hc2, if_neg (by decide), if_neg (by decide), if_neg (by decide), if_pos (show nI 3 = (3 : Int32) from rfl), o1, bitC (by omega) (by omega), ← ob]; rfl
    · show f_X12_fact 112 _ _ = _
      unfold f_X12_fact f_X12_fact_j130 f_X12_fact_j129
      rw [if_pos rfl, k_isPump, i0, e22, i22, ← ob]
      by_cases h1 : w < plN σ 1 11
      · rw [if_pos (by omega), jn_e, jn_e, z1z, ldI_n (by omega) (by omega), o2]
        exact bN_ld _ _ (fun x => some x)
      · rw [if_neg (by omega), jn_e, jn_e, z0z]
        obtain ⟨-, -, -, hA, -⟩ := h
        obtain ⟨d, u, -, so, sn, sw, ⟨-, a1, -⟩, -, a5, -⟩ := hA
        obtain ⟨c1, c2, -, -, c5, -⟩ := a5 d (by omega)
        have hz2 : (sn d).testBit w = false := (c5 w (by rw [hC.1.2.2.1, i22]; omega)).1
        have : plN σ 1 15 = sn d := by
          have e := o1.symm.trans a1
          exact (nI_eq (by omega) (by omega)).1 e
        unfold bN
        rw [this, hz2]; rfl
  | 4, _ =>
    refine ⟨k, by omega, fun c hc1 hc2 => ?_, ?_⟩
    · rw [hcmp c hc1 hc2, if_neg (by decide), if_neg (by decide), if_neg (by decide), if_neg (by decide), u0]
    · show f_X12_fact 116 _ _ = _
      unfold f_X12_fact
      rw [if_neg (by decide), if_neg (by decide), if_neg (by decide), if_neg (by decide), if_pos rfl, u2]
  | f + 5, hf => exact absurd hf (by omega)
