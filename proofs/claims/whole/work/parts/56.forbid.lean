/-! ===== what forbids, but for a rule's test ===== -/
theorem bad_x {s p : Nat} (hs : s < 2 ^ 16) (hp : p < 2 ^ 16) (k : Int32) (hk : k = 0 ∨ k = 1) : ∃ x, x < 2 ^ 16 ∧ (nI s &&& (if k = 0 then (nI p ^^^ (-1 : Int32)) else nI p)) = nI x ∧ ∀ r, r < 16 → x.testBit r = (s.testBit r && (p.testBit r == decide (k = 1))) := by
  rcases hk with rfl | rfl
  · refine ⟨s &&& (p ^^^ (2 ^ 32 - 1)), Nat.lt_of_le_of_lt Nat.and_le_left hs, ?_, fun r hr => ?_⟩
    · rw [z0z, show (-1 : Int32) = nI (2 ^ 32 - 1) from rfl, nI_xor (by omega) (by omega), nI_and (by omega) (Nat.xor_lt_two_pow (by omega) (by omega))]
    · rw [Nat.testBit_and, Nat.testBit_xor, Nat.testBit_two_pow_sub_one, decide_eq_true (show r < 32 by omega)]
      cases s.testBit r <;> cases p.testBit r <;> rfl
  · refine ⟨s &&& p, Nat.lt_of_le_of_lt Nat.and_le_left hs, ?_, fun r hr => ?_⟩
    · rw [z1z, nI_and (by omega) (by omega)]
    · rw [Nat.testBit_and]
      cases s.testBit r <;> cases p.testBit r <;> rfl
/-- what both say of one rule -/
def HR (n : Nat) (σ τ : Hp) : Prop := ∀ r : Nat, (r : Int) < (σ.1 32 2).toInt → ∀ ρ, RR n σ ρ → ρ.1 104 = τ.1 104 → ρ.1 105 = τ.1 105 → ρ.1 106 = τ.1 106 → ∃ b ρ', f_X8_holds (nI r) (σ.1 1 15) σ = some (oB b) ∧ f_X12_holdsRule (nI r) ρ = some (oB b, ρ') ∧ RR n σ ρ' ∧ ρ'.1 104 = τ.1 104 ∧ ρ'.1 105 = τ.1 105 ∧ ρ'.1 106 = τ.1 106
theorem rule_at {n : Nat} {σ ρ : Hp} (h : RR n σ ρ) : ∃ s p : Nat, σ.1 32 3 = nI s ∧ σ.1 32 4 = nI p ∧ s < 2 ^ 16 ∧ p < 2 ^ 16 ∧ bd (σ.1 32 2) 0 16 ∧ σ.1 32 2 = ρ.1 86 38 ∧ ∀ r : Nat, (r : Int) < (σ.1 32 2).toInt → ρ.1 119 r = (if s.testBit r then 0 else 1) ∧ bd (σ.1 33 r) 0 9 ∧ ρ.1 116 (40 * r) = (if p.testBit r then 80 else 86) ∧ ρ.1 116 (40 * r + 1) = 48 + σ.1 33 r := by
  obtain ⟨hF, hP, hG, hA, hT, hU, hR⟩ := h
  obtain ⟨u1, u2, s, p, u3, u4, u5, u6, u7, u8⟩ := hU
  exact ⟨s, p, u3, u4, u5, u6, u2, u1, fun r hr => ⟨(u8 r hr).1, (u8 r hr).2.1, (u8 r hr).2.2.1, (u8 r hr).2.2.2.1⟩⟩
theorem eq48 {x y : Int32} (hx : 0 ≤ x.toInt ∧ x.toInt ≤ 1000) (hy : 0 ≤ y.toInt ∧ y.toInt ≤ 1000) : (48 + x = 48 + y) ↔ x = y := by
  constructor
  · intro e
    have := congrArg Int32.toInt e
    rw [addI (by show -2147483648 ≤ (48 : Int) + _; omega) (by show (48 : Int) + _ < 2147483648; omega), addI (by show -2147483648 ≤ (48 : Int) + _; omega) (by show (48 : Int) + _ < 2147483648; omega)] at this
    exact Int32.toInt_inj.1 (by omega)
  · intro e; rw [e]
theorem first_ex (hit : Nat → Bool) (c : Nat) (hc : c ≤ 16) : ∃ R : Int32, (∀ i, i < c → hit i = true → (∀ j, j < i → hit j = false) → R = nI i) ∧ ((∀ j, j < c → hit j = false) → R = -9) ∧ (R = -9 ∨ 0 ≤ R.toInt) := by
  induction c with
  | zero => exact ⟨-9, fun i hi => absurd hi (by omega), fun _ => rfl, Or.inl rfl⟩
  | succ c ih =>
    obtain ⟨R, h1, h2, h3⟩ := ih (by omega)
    by_cases e : ∀ j, j < c → hit j = false
    · by_cases e2 : hit c = true
      · refine ⟨nI c, fun i hi hh hj => ?_, fun hn => ?_, Or.inr (by rw [nI_toInt (by omega)]; omega)⟩
        · by_cases e3 : i = c
          · rw [e3]
          · have := e i (by omega); rw [hh] at this; exact absurd this (by decide)
        · have := hn c (by omega); rw [e2] at this; exact absurd this (by decide)
      · refine ⟨-9, fun i hi hh hj => ?_, fun _ => rfl, Or.inl rfl⟩
        by_cases e3 : i = c
        · rw [e3] at hh; exact absurd hh e2
        · have := e i (by omega); rw [hh] at this; exact absurd this (by decide)
    · refine ⟨R, fun i hi hh hj => ?_, fun hn => absurd (fun j hj => hn j (by omega)) e, h3⟩
      by_cases e3 : i = c
      · rw [e3] at hj; exact absurd hj e
      · exact h1 i (by omega) hh hj
theorem FB_of {n : Nat} {a k : Int32} {σ τ : Hp} (hk : k = 0 ∨ k = 1) (ha : 0 ≤ a.toInt ∧ a.toInt ≤ 1000) (h : RR n σ τ) (hH : HR n σ τ) : FB n a k σ τ := by
  obtain ⟨s, p, u3, u4, u5, u6, u2, u1, u8⟩ := rule_at h
  obtain ⟨x, x1, x2, x3⟩ := bad_x u5 u6 k hk
  have ec := n_of u2.1
  generalize hcc : (σ.1 32 2).toInt.toNat = c at ec
  have hc : c ≤ 16 := by have := u2.2; omega
  have e0 : f_X8_forbidder a k (σ.1 1 15) σ = lp (f_X8_forbidder_l27 a (σ.1 1 15) σ (nI x)) FU (0 : Int32) := by
    unfold f_X8_forbidder
    rw [jn_e]
    unfold f_X8_forbidder_j21
    rw [u3, u4, ← x2]
    rcases hk with rfl | rfl
    · rw [z0z, z0z, lt_e]
    · rw [z1z, z1z, lt_e]
  have hv : ∀ r, r < c → ∃ b, f_X8_holds (nI r) (σ.1 1 15) σ = some (oB b) := fun r hr => by
    obtain ⟨b, ρ', g1, -⟩ := hH r (by rw [ec, nI_toInt (by omega)]; omega) τ h rfl rfl rfl
    exact ⟨b, g1⟩
  generalize hhit : (fun r => x.testBit r && (decide (σ.1 33 r = a) && decide (f_X8_holds (nI r) (σ.1 1 15) σ = some 1))) = hit
  have hat : ∀ r, hit r = (x.testBit r && (decide (σ.1 33 r = a) && decide (f_X8_holds (nI r) (σ.1 1 15) σ = some 1))) := fun r => by rw [← hhit]
  have hob : ∀ r b, f_X8_holds (nI r) (σ.1 1 15) σ = some (oB b) → hit r = (x.testBit r && (decide (σ.1 33 r = a) && b)) := fun r b hb => by
    rw [hat, hb]
    cases b <;> rfl
  obtain ⟨R, p1, p2, p3⟩ := first_ex hit c hc
  have eC : lp (f_X8_forbidder_l27 a (σ.1 1 15) σ (nI x)) FU (0 : Int32) = some R := by
    refine lp_e (Q := fun r => r = some R) c (fun i s => s = nI i ∧ ∀ j, j < i → hit j = false) ?_ ?_ 0 (Nat.zero_le _) (by omega) ⟨rfl, fun j hj => absurd hj (by omega)⟩
    · rintro i s hi ⟨rfl, h1⟩ K
      obtain ⟨b, hb⟩ := hv i hi
      have hh := hob i b hb
      have hF : f_X8_forbidder_l27 a (σ.1 1 15) σ (nI x) K (nI i) = if hit i = true then some (nI i) else K (nI (i + 1)) := by
        unfold f_X8_forbidder_l27 f_X8_forbidder_j71
        rw [ec, le_f hi (by omega), jn_e, bit1 (by omega) (by omega), ldI_n (by omega) (by omega), hb, cr_s, lt_e, nI_1, hh, oB_0]
        cases x.testBit i
        · rw [if_neg (by decide), Bool.false_and, if_neg (by decide)]
        · rw [if_pos rfl, Bool.true_and]
          by_cases e : σ.1 33 i = a
          · rw [if_pos e, decide_eq_true e, Bool.true_and]
          · rw [if_neg e, decide_eq_false e, Bool.false_and, if_neg (by decide)]
      rw [hF]
      by_cases e : hit i = true
      · rw [if_pos e]; exact Or.inl (by rw [p1 i hi e h1])
      · rw [if_neg e]
        refine Or.inr ⟨nI (i + 1), ⟨rfl, fun j hj => ?_⟩, rfl⟩
        by_cases e2 : j = i
        · rw [e2]; exact Bool.eq_false_iff.2 e
        · exact h1 j (by omega)
    · rintro s ⟨rfl, h1⟩ K
      unfold f_X8_forbidder_l27
      rw [ec, le_t (Nat.le_refl _) (by omega), p2 h1]
  have eM : ∃ τ', f_X12_forbidden a k τ = some (R, τ') ∧ RR n σ τ' ∧ τ'.1 104 = τ.1 104 ∧ τ'.1 105 = τ.1 105 ∧ τ'.1 106 = τ.1 106 := by
    unfold f_X12_forbidden
    refine lp_e (Q := fun r => ∃ τ', r = some (R, τ') ∧ RR n σ τ' ∧ τ'.1 104 = τ.1 104 ∧ τ'.1 105 = τ.1 105 ∧ τ'.1 106 = τ.1 106) c (fun i (s : Int32 × Hp) => (s.1 = nI i ∧ ∀ j, j < i → hit j = false) ∧ RR n σ s.2 ∧ s.2.1 104 = τ.1 104 ∧ s.2.1 105 = τ.1 105 ∧ s.2.1 106 = τ.1 106) ?_ ?_ 0 (Nat.zero_le _) (by omega) ⟨⟨rfl, fun j hj => absurd hj (by omega)⟩, h, rfl, rfl, rfl⟩
    · rintro i ⟨q, ρ⟩ hi ⟨⟨h0, h1⟩, h2, h3, h4, h5⟩ K
      obtain rfl : q = nI i := h0
      dsimp only at h2 h3 h4 h5
      have hi' : (i : Int) < (σ.1 32 2).toInt := by rw [ec, nI_toInt (by omega)]; omega
      obtain ⟨s', p', v3, v4, v5, v6, v2, v1, v8⟩ := rule_at h2
      obtain ⟨w1, w2, w3, w4⟩ := v8 i hi'
      have es : s' = s := by
        have := u3.symm.trans v3
        have := congrArg Int32.toInt this
        rw [nI_toInt (by omega), nI_toInt (by omega)] at this
        omega
      have ep : p' = p := by
        have := u4.symm.trans v4
        have := congrArg Int32.toInt this
        rw [nI_toInt (by omega), nI_toInt (by omega)] at this
        omega
      subst es ep
      obtain ⟨b, ρ', g1, g2, g3, g4, g5, g6⟩ := hH i hi' ρ h2 h3 h4 h5
      have hh := hob i b g1
      rw [x3 i (by omega)] at hh
      have hK : ∀ ρ2, f_X12_forbidden_j73 (nI i, ρ) K ρ2 = K (nI (i + 1), ρ2) := fun ρ2 => by
        unfold f_X12_forbidden_j73
        dsimp only
        rw [lt_e, nI_1]
      have e40 : (40 : Int32) * nI i = nI (40 * i) := by
        apply Int32.toInt_inj.1
        rw [mulI (by rw [nI_toInt (by omega)]; show -2147483648 ≤ (40 : Int) * _; omega) (by rw [nI_toInt (by omega)]; show (40 : Int) * _ < 2147483648; omega), nI_toInt (by omega), nI_toInt (by omega)]
        show (40 : Int) * _ = _
        omega
      have hj : ∀ t, f_X12_forbidden_j39 a (nI i, ρ) (f_X12_forbidden_j73 (nI i, ρ) K) (if p'.testBit i then 80 else 86) t = if (if p'.testBit i = true then (80 : Int32) else 86) = t then (if σ.1 33 i = a then (if b then some (nI i, ρ') else K (nI (i + 1), ρ')) else K (nI (i + 1), ρ)) else K (nI (i + 1), ρ) := fun t => by
        unfold f_X12_forbidden_j39
        dsimp only
        rw [e40, nI_1, ldI_n (by omega) (by omega), w4, g2, cl_s, hK, hK, oB_0]
        by_cases e : σ.1 33 i = a
        · rw [if_pos ((eq48 ⟨w2.1, by have := w2.2; omega⟩ ha).2 e), if_pos e]
        · rw [if_neg (fun h => e ((eq48 ⟨w2.1, by have := w2.2; omega⟩ ha).1 h)), if_neg e]
      have hF : f_X12_forbidden_l2 a k K (nI i, ρ) = if s'.testBit i && (p'.testBit i == decide (k = 1)) then (if σ.1 33 i = a then (if b then some (nI i, ρ') else K (nI (i + 1), ρ')) else K (nI (i + 1), ρ)) else K (nI (i + 1), ρ) := by
        unfold f_X12_forbidden_l2
        dsimp only
        rw [← v1, ec, le_f hi (by omega), ldI_n (by omega) (by omega), w1, jn_e, e40, ldI_n (by omega) (by omega), w3, jn_e, hj, hj, hK]
        rcases hk with rfl | rfl <;> cases s'.testBit i <;> cases p'.testBit i <;> rfl
      rw [hF]
      by_cases c1 : (s'.testBit i && (p'.testBit i == decide (k = 1))) = true
      · rw [if_pos c1]
        rw [c1, Bool.true_and] at hh
        by_cases c2 : σ.1 33 i = a
        · rw [if_pos c2]
          rw [decide_eq_true c2, Bool.true_and] at hh
          cases b
          · refine Or.inr ⟨(nI (i + 1), ρ'), ⟨⟨rfl, fun j hj => ?_⟩, g3, g4, g5, g6⟩, rfl⟩
            by_cases e2 : j = i
            · rw [e2]; exact hh
            · exact h1 j (by omega)
          · exact Or.inl ⟨ρ', by rw [p1 i hi hh h1]; rfl, g3, g4, g5, g6⟩
        · rw [if_neg c2]
          rw [decide_eq_false c2, Bool.false_and] at hh
          refine Or.inr ⟨(nI (i + 1), ρ), ⟨⟨rfl, fun j hj => ?_⟩, h2, h3, h4, h5⟩, rfl⟩
          by_cases e2 : j = i
          · rw [e2]; exact hh
          · exact h1 j (by omega)
      · rw [if_neg c1]
        rw [Bool.eq_false_iff.2 c1, Bool.false_and] at hh
        refine Or.inr ⟨(nI (i + 1), ρ), ⟨⟨rfl, fun j hj => ?_⟩, h2, h3, h4, h5⟩, rfl⟩
        by_cases e2 : j = i
        · rw [e2]; exact hh
        · exact h1 j (by omega)
    · rintro ⟨q, ρ⟩ ⟨⟨h0, h1⟩, h2, h3, h4, h5⟩ K
      obtain rfl : q = nI c := h0
      obtain ⟨s', p', v3, v4, v5, v6, v2, v1, v8⟩ := rule_at h2
      refine ⟨ρ, ?_, h2, h3, h4, h5⟩
      unfold f_X12_forbidden_l2
      dsimp only
      rw [← v1, ec, le_t (Nat.le_refl _) (by omega), p2 h1]
  obtain ⟨τ', f1, f2, f3, f4, f5⟩ := eM
  exact ⟨R, τ', e0.trans eC, f1, f2, f3, f4, f5, p3⟩
