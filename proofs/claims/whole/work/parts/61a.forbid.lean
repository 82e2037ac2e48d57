/-! ===== what forbids, whichever pumps are on ===== -/
/-- the model's heap but for what its reading of a rule writes -/
def FRM (τ τ' : Hp) : Prop := fr [86, 120, 121] τ τ' ∧ ∀ j, j ≠ 43 → j ≠ 44 → j ≠ 45 → τ'.1 86 j = τ.1 86 j
theorem FRM_0 (τ : Hp) : FRM τ τ := ⟨fr_0 _ _, fun _ _ _ _ => rfl⟩
theorem FRM_t {τ τ' τ'' : Hp} (h : FRM τ τ') (h' : FRM τ' τ'') : FRM τ τ'' := ⟨fr_t h.1 h'.1, fun j h1 h2 h3 => (h'.2 j h1 h2 h3).trans (h.2 j h1 h2 h3)⟩
theorem RW_fr {mo : Nat} {σ τ τ' : Hp} (h : RW mo σ τ) (hf : FRM τ τ') : RW mo σ τ' :=
  RW_keep h (fun a ha => hf.1 a (fun hb => by revert ha hb; revert a; decide)) (fun j hj => hf.2 j (fun e => by subst e; revert hj; decide) (fun e => by subst e; revert hj; decide) (fun e => by subst e; revert hj; decide))
theorem HRW {mo : Nat} {σ τ : Hp} (h : RW mo σ τ) {r : Nat} (hr : (r : Int) < (σ.1 32 2).toInt) : ∃ b, f_X8_holds (nI r) (nI mo) σ = some (oB b) ∧ ∀ ρ, FRM τ ρ → ∃ ρ', f_X12_holdsRule (nI r) ρ = some (oB b, ρ') ∧ FRM τ ρ' := by
  obtain ⟨L, S, b, c1, c2, c3, c4, c5, c6⟩ := c_truth h hr
  have hr16 : r < 16 := by
    obtain ⟨pl, x, k, -, -, -, -, hU⟩ := h
    have := hU.2.1.2
    omega
  refine ⟨b, c6, fun ρ hρ => ?_⟩
  have e116 : ρ.1 116 = τ.1 116 := hρ.1 116 (by decide)
  have e117 : ρ.1 117 = τ.1 117 := hρ.1 117 (by decide)
  obtain ⟨ρ', e1, e2, e3⟩ := m_holdsR (RW_fr h hρ) hr16 (by rw [e117]; exact c1) c2 (by unfold txt; rw [e116]; exact c4) c5
  exact ⟨ρ', e1, FRM_t hρ ⟨e2, e3⟩⟩
theorem rule_atW {mo : Nat} {σ ρ : Hp} (h : RW mo σ ρ) : ∃ s p : Nat, σ.1 32 3 = nI s ∧ σ.1 32 4 = nI p ∧ s < 2 ^ 16 ∧ p < 2 ^ 16 ∧ bd (σ.1 32 2) 0 16 ∧ σ.1 32 2 = ρ.1 86 38 ∧ ∀ r : Nat, (r : Int) < (σ.1 32 2).toInt → ρ.1 119 r = (if s.testBit r then 0 else 1) ∧ bd (σ.1 33 r) 0 9 ∧ ρ.1 116 (40 * r) = (if p.testBit r then 80 else 86) ∧ ρ.1 116 (40 * r + 1) = 48 + σ.1 33 r := by
  obtain ⟨pl, x, k, -, -, -, -, hU⟩ := h
  obtain ⟨u1, u2, s, p, u3, u4, u5, u6, u7, u8⟩ := hU
  exact ⟨s, p, u3, u4, u5, u6, u2, u1, fun r hr => ⟨(u8 r hr).1, (u8 r hr).2.1, (u8 r hr).2.2.1, (u8 r hr).2.2.2.1⟩⟩
theorem FBW {mo : Nat} {a k : Int32} {σ τ : Hp} (hk : k = 0 ∨ k = 1) (ha : 0 ≤ a.toInt ∧ a.toInt ≤ 1000) (h : RW mo σ τ) : ∃ R, f_X8_forbidder a k (nI mo) σ = some R ∧ (R = -9 ∨ 0 ≤ R.toInt) ∧ ∃ τ', f_X12_forbidden a k τ = some (R, τ') ∧ FRM τ τ' := by
  obtain ⟨s, p, u3, u4, u5, u6, u2, u1, u8⟩ := rule_atW h
  obtain ⟨x, x1, x2, x3⟩ := bad_x u5 u6 k hk
  have ec := n_of u2.1
  generalize hcc : (σ.1 32 2).toInt.toNat = c at ec
  have hc : c ≤ 16 := by have := u2.2; omega
  have e0 : f_X8_forbidder a k (nI mo) σ = lp (f_X8_forbidder_l27 a (nI mo) σ (nI x)) FU (0 : Int32) := by
    unfold f_X8_forbidder
    rw [jn_e]
    unfold f_X8_forbidder_j21
    rw [u3, u4, ← x2]
    rcases hk with rfl | rfl
    · rw [z0z, z0z, lt_e]
    · rw [z1z, z1z, lt_e]
  have hv : ∀ r, r < c → ∃ b, f_X8_holds (nI r) (nI mo) σ = some (oB b) := fun r hr => by
    obtain ⟨b, g1, -⟩ := HRW h (r := r) (by rw [ec, nI_toInt (by omega)]; omega)
    exact ⟨b, g1⟩
  generalize hhit : (fun r => x.testBit r && (decide (σ.1 33 r = a) && decide (f_X8_holds (nI r) (nI mo) σ = some 1))) = hit
  have hat : ∀ r, hit r = (x.testBit r && (decide (σ.1 33 r = a) && decide (f_X8_holds (nI r) (nI mo) σ = some 1))) := fun r => by rw [← hhit]
  have hob : ∀ r b, f_X8_holds (nI r) (nI mo) σ = some (oB b) → hit r = (x.testBit r && (decide (σ.1 33 r = a) && b)) := fun r b hb => by
    rw [hat, hb]
    cases b <;> rfl
  obtain ⟨R, p1, p2, p3⟩ := first_ex hit c hc
  have eC : lp (f_X8_forbidder_l27 a (nI mo) σ (nI x)) FU (0 : Int32) = some R := by
    refine lp_e (Q := fun r => r = some R) c (fun i s => s = nI i ∧ ∀ j, j < i → hit j = false) ?_ ?_ 0 (Nat.zero_le _) (by omega) ⟨rfl, fun j hj => absurd hj (by omega)⟩
    · rintro i s hi ⟨rfl, h1⟩ K
      obtain ⟨b, hb⟩ := hv i hi
      have hh := hob i b hb
      have hF : f_X8_forbidder_l27 a (nI mo) σ (nI x) K (nI i) = if hit i = true then some (nI i) else K (nI (i + 1)) := by
        unfold f_X8_forbidder_l27 f_X8_forbidder_j71
        rw [ec, le_f hi (by omega), jn_e, bit1 (by omega) (by omega), ldI_n (by omega) (by omega), hb, cr_s, lt_e, nI_1, hh, oB_0]
        cases x.testBit i
        · rw [if_neg (by decide), Bool.false_and, if_neg (by decide)]
        · rw [if_pos rfl, Bool.true_and]
          by_cases e : σ.1 33 i = a
          · rw [if_pos e, decide_eq_true e, Bool.true_and]
          · rw [if_neg e, decide_eq_false e, Bool.false_and, if_neg (by decide)]
      rw [hF]
      by_cases e : hit i = true
      · rw [if_pos e]; exact Or.inl (by rw [p1 i hi e h1])
      · rw [if_neg e]
        refine Or.inr ⟨nI (i + 1), ⟨rfl, fun j hj => ?_⟩, rfl⟩
        by_cases e2 : j = i
        · rw [e2]; exact Bool.eq_false_iff.2 e
        · exact h1 j (by omega)
    · rintro s ⟨rfl, h1⟩ K
      unfold f_X8_forbidder_l27
      rw [ec, le_t (Nat.le_refl _) (by omega), p2 h1]
  have eM : ∃ τ', f_X12_forbidden a k τ = some (R, τ') ∧ FRM τ τ' := by
    unfold f_X12_forbidden
    refine lp_e (Q := fun r => ∃ τ', r = some (R, τ') ∧ FRM τ τ') c (fun i (s : Int32 × Hp) => (s.1 = nI i ∧ ∀ j, j < i → hit j = false) ∧ FRM τ s.2) ?_ ?_ 0 (Nat.zero_le _) (by omega) ⟨⟨rfl, fun j hj => absurd hj (by omega)⟩, FRM_0 τ⟩
    · rintro i ⟨q, ρ⟩ hi ⟨⟨h0, h1⟩, h2⟩ K
      obtain rfl : q = nI i := h0
      dsimp only at h2
      have hi' : (i : Int) < (σ.1 32 2).toInt := by rw [ec, nI_toInt (by omega)]; omega
      obtain ⟨s', p', v3, v4, v5, v6, v2, v1, v8⟩ := rule_atW (RW_fr h h2)
      obtain ⟨w1, w2, w3, w4⟩ := v8 i hi'
      have es : s' = s := by
        have := u3.symm.trans v3
        have := congrArg Int32.toInt this
        rw [nI_toInt (by omega), nI_toInt (by omega)] at this
        omega
      have ep : p' = p := by
        have := u4.symm.trans v4
        have := congrArg Int32.toInt this
        rw [nI_toInt (by omega), nI_toInt (by omega)] at this
        omega
      subst es ep
      obtain ⟨b, g1, gg⟩ := HRW h hi'
      obtain ⟨ρ', g2, g3⟩ := gg ρ h2
      have hh := hob i b g1
      rw [x3 i (by omega)] at hh
      have hK : ∀ ρ2, f_X12_forbidden_j73 (nI i, ρ) K ρ2 = K (nI (i + 1), ρ2) := fun ρ2 => by
        unfold f_X12_forbidden_j73
        dsimp only
        rw [lt_e, nI_1]
      have e40 : (40 : Int32) * nI i = nI (40 * i) := by
        apply Int32.toInt_inj.1
        rw [mulI (by rw [nI_toInt (by omega)]; show -2147483648 ≤ (40 : Int) * _; omega) (by rw [nI_toInt (by omega)]; show (40 : Int) * _ < 2147483648; omega), nI_toInt (by omega), nI_toInt (by omega)]
        show (40 : Int) * _ = _
        omega
      have hj : ∀ t, f_X12_forbidden_j39 a (nI i, ρ) (f_X12_forbidden_j73 (nI i, ρ) K) (if p'.testBit i then 80 else 86) t = if (if p'.testBit i = true then (80 : Int32) else 86) = t then (if σ.1 33 i = a then (if b then some (nI i, ρ') else K (nI (i + 1), ρ')) else K (nI (i + 1), ρ)) else K (nI (i + 1), ρ) := fun t => by
        unfold f_X12_forbidden_j39
        dsimp only
        rw [e40, nI_1, ldI_n (by omega) (by omega), w4, g2, cl_s, hK, hK, oB_0]
        by_cases e : σ.1 33 i = a
        · rw [if_pos ((eq48 ⟨w2.1, by have := w2.2; omega⟩ ha).2 e), if_pos e]
        · rw [if_neg (fun h => e ((eq48 ⟨w2.1, by have := w2.2; omega⟩ ha).1 h)), if_neg e]
      have hF : f_X12_forbidden_l2 a k K (nI i, ρ) = if s'.testBit i && (p'.testBit i == decide (k = 1)) then (if σ.1 33 i = a then (if b then some (nI i, ρ') else K (nI (i + 1), ρ')) else K (nI (i + 1), ρ)) else K (nI (i + 1), ρ) := by
        unfold f_X12_forbidden_l2
        dsimp only
        rw [← v1, ec, le_f hi (by omega), ldI_n (by omega) (by omega), w1, jn_e, e40, ldI_n (by omega) (by omega), w3, jn_e, hj, hj, hK]
        rcases hk with rfl | rfl <;> cases s'.testBit i <;> cases p'.testBit i <;> rfl
      rw [hF]
      by_cases c1 : (s'.testBit i && (p'.testBit i == decide (k = 1))) = true
      · rw [if_pos c1]
        rw [c1, Bool.true_and] at hh
        by_cases c2 : σ.1 33 i = a
        · rw [if_pos c2]
          rw [decide_eq_true c2, Bool.true_and] at hh
          cases b
          · refine Or.inr ⟨(nI (i + 1), ρ'), ⟨⟨rfl, fun j hj => ?_⟩, g3⟩, rfl⟩
            by_cases e2 : j = i
            · rw [e2]; exact hh
            · exact h1 j (by omega)
          · exact Or.inl ⟨ρ', by rw [p1 i hi hh h1]; rfl, g3⟩
        · rw [if_neg c2]
          rw [decide_eq_false c2, Bool.false_and] at hh
          refine Or.inr ⟨(nI (i + 1), ρ), ⟨⟨rfl, fun j hj => ?_⟩, h2⟩, rfl⟩
          by_cases e2 : j = i
          · rw [e2]; exact hh
          · exact h1 j (by omega)
      · rw [if_neg c1]
        rw [Bool.eq_false_iff.2 c1, Bool.false_and] at hh
        refine Or.inr ⟨(nI (i + 1), ρ), ⟨⟨rfl, fun j hj => ?_⟩, h2⟩, rfl⟩
        by_cases e2 : j = i
        · rw [e2]; exact hh
        · exact h1 j (by omega)
    · rintro ⟨q, ρ⟩ ⟨⟨h0, h1⟩, h2⟩ K
      obtain rfl : q = nI c := h0
      obtain ⟨s', p', v3, v4, v5, v6, v2, v1, v8⟩ := rule_atW (RW_fr h h2)
      refine ⟨ρ, ?_, h2⟩
      unfold f_X12_forbidden_l2
      dsimp only
      rw [← v1, ec, le_t (Nat.le_refl _) (by omega), p2 h1]
  obtain ⟨τ', f1, f2⟩ := eM
  exact ⟨R, e0.trans eC, p3, τ', f1, f2⟩
