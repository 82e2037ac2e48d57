/-! ===== valve and start, but for what forbids ===== -/
theorem xor_q (s q : Nat) : (s ^^^ 2 ^ q).testBit q = !s.testBit q := by
  rw [Nat.testBit_xor, Nat.testBit_two_pow, decide_eq_true rfl]
  cases s.testBit q <;> rfl
theorem bN_fl {s q : Nat} {v : Int32} (hv : v = 0 ∨ v = 1) (h : bN s q ≠ v) : v = bN (s ^^^ 2 ^ q) q := by
  unfold bN at h ⊢
  rw [xor_q]
  rcases hv with rfl | rfl <;> cases hb : s.testBit q <;> rw [hb] at h
  · exact absurd rfl h
  · rfl
  · rfl
  · exact absurd rfl h
theorem st_flip0 {n : Nat} {σ τ : Hp} (h : RR n σ τ) {q : Nat} (hq : (q : Int) < (σ.1 1 6).toInt) {v : Int32} (hv : v = 0 ∨ v = 1) (hne : τ.1 104 q ≠ v) : ∃ σ' τ', f_X0_perform 0 (nI q) σ = some σ' ∧ f_X12_acts 0 (nI q) v τ = some (1, τ') ∧ RR (n + 1) σ' τ' := by
  obtain ⟨hF, hP, hG, hA, hR⟩ := id h
  obtain ⟨d, u, ⟨r3, m50, r4, m51, hdu⟩, so, sn, sw, ⟨o1, o2, o3⟩, o4, o5, o6⟩ := hA
  have hS := o5 d (by omega)
  have hq12 : q < 12 := by have := hP.2.1.2.1.2; omega
  rw [(o4 q).1] at hne
  have hS' : SO (so d ^^^ 2 ^ q) (sn d) (sw d) (σ.1 1 6) (σ.1 1 11) (σ.1 12) := by
    refine ⟨xor2_lt hS.1 hq12, hS.2.1, hS.2.2.1, fun k hk => ?_, hS.2.2.2.2⟩
    rw [xor_t k (by omega)]; exact hS.2.2.2.1 k hk
  exact st_do h r3 m50 hdu o1 o2 o3 o4 o5 o6 (mw := bN (so d) q) ⟨q, rfl, rfl, Or.inl ⟨rfl, rfl, hq, rfl, rfl, rfl, rfl, bN_fl hv hne⟩⟩ (fun ρ hρ => m_state0 hρ hq12) hS'
theorem st_flip1 {n : Nat} {σ τ : Hp} (h : RR n σ τ) {q : Nat} (hq : (q : Int) < (σ.1 1 11).toInt) {v : Int32} (hv : v = 0 ∨ v = 1) (hne : τ.1 105 q ≠ v) (hw : v = 1 → τ.1 106 q = 0) : ∃ σ' τ', f_X0_perform 1 (nI q) σ = some σ' ∧ f_X12_acts 1 (nI q) v τ = some (1, τ') ∧ RR (n + 1) σ' τ' := by
  obtain ⟨hF, hP, hG, hA, hR⟩ := id h
  obtain ⟨d, u, ⟨r3, m50, r4, m51, hdu⟩, so, sn, sw, ⟨o1, o2, o3⟩, o4, o5, o6⟩ := hA
  have hS := o5 d (by omega)
  have hq8 : q < 8 := by have := hP.2.1.2.2.2; omega
  rw [(o4 q).2.1] at hne
  rw [(o4 q).2.2] at hw
  have hb : (sw d).testBit q = false := by
    rcases hv with rfl | rfl
    · cases hb : (sw d).testBit q
      · rfl
      · have := (hS.2.2.2.2.2 q hb).1
        exact absurd (by unfold bN; rw [this]; rfl) hne
    · have hw1 := hw rfl
      unfold bN at hw1
      cases hb : (sw d).testBit q
      · rfl
      · rw [hb] at hw1; exact absurd hw1 (by decide)
  have hS' : SO (so d) (sn d ^^^ 2 ^ q) (sw d) (σ.1 1 6) (σ.1 1 11) (σ.1 12) := by
    refine ⟨hS.1, xor2_lt hS.2.1 hq8, hS.2.2.1, hS.2.2.2.1, fun k hk => ?_, fun k hk => ?_⟩
    · rw [xor_t k (by omega)]; exact hS.2.2.2.2.1 k hk
    · have e : k ≠ q := fun e => by rw [e, hb] at hk; exact absurd hk (by decide)
      rw [xor_t k e]; exact hS.2.2.2.2.2 k hk
  exact st_do h r3 m50 hdu o1 o2 o3 o4 o5 o6 (mw := bN (sn d) q) ⟨q, rfl, rfl, Or.inr (Or.inl ⟨rfl, rfl, hq, rfl, rfl, rfl, hb, rfl, rfl, bN_fl hv hne⟩)⟩ (fun ρ hρ => m_state1 (by decide) hρ hq8 hb) hS'
/-- what both say of the rules against an act -/
def FB (n : Nat) (a k : Int32) (σ τ : Hp) : Prop := ∃ r τ', f_X8_forbidder a k (σ.1 1 15) σ = some r ∧ f_X12_forbidden a k τ = some (r, τ') ∧ RR n σ τ' ∧ τ'.1 104 = τ.1 104 ∧ τ'.1 105 = τ.1 105 ∧ τ'.1 106 = τ.1 106 ∧ (r = -9 ∨ 0 ≤ r.toInt)
theorem st_valve_of (n : Nat) (a b : Int32) (hb01 : b = 0 ∨ b = 1) {σ τ : Hp} (h : RR n σ τ) (hfb : 0 ≤ a.toInt ∧ a.toInt < (σ.1 1 6).toInt → FB n a 0 σ τ) : Ok32 n (f_X11_valve a b σ) (f_X12_valve a b τ) := by
  obtain ⟨hF, hP, hG, hA, hR⟩ := id h
  obtain ⟨d, u, ⟨r3, m50, r4, m51, hdu⟩, so, sn, sw, ⟨o1, o2, o3⟩, o4, o5, o6⟩ := hA
  have e21 : τ.1 86 21 = σ.1 1 6 := hP.1.2.1.symm
  have bp : bd (σ.1 1 6) 0 12 := ⟨hP.2.1.2.1.1, hP.2.1.2.1.2⟩
  have hS := o5 d (by omega)
  unfold f_X11_valve f_X12_valve
  rw [k_within, k_isPipe, e21]
  by_cases h1 : 0 ≤ a.toInt ∧ a.toInt < (σ.1 1 6).toInt
  · have hf := hfb h1
    have ea := n_of h1.1
    generalize hk0 : a.toInt.toNat = q at ea
    subst ea
    have hq12 : q < 12 := by have := bp.2; omega
    have hq : (q : Int) < (σ.1 1 6).toInt := by have := h1.2; rw [nI_toInt (by omega)] at this; exact this
    have eb : (if b = 0 then f_X11_valve_j40 (nI q) b σ 0 else f_X11_valve_j40 (nI q) b σ 1) = f_X11_valve_j40 (nI q) b σ b := by
      rcases hb01 with rfl | rfl <;> rfl
    rw [if_pos h1, if_pos h1, z1z, z1z, jn_e, eb, ldI_n (by omega) (by omega)]
    unfold f_X11_valve_j40
    rw [o1, bitC (by have := hS.1; omega) (by omega), show (if (so d).testBit q = true then (1 : Int32) else 0) = τ.1 104 q from (o4 q).1.symm]
    by_cases h2 : τ.1 104 q = b
    · rw [if_pos h2, if_pos h2]
      exact ⟨_, _, _, rfl, rfl, RR_same h⟩
    rw [if_neg h2, if_neg h2, jn_e, jn_e]
    have e46 : ∀ ρ, f_X12_valve_j46 (nI q) b ρ = cl (f_X12_acts 0 (nI q) b ρ) fun v7 σ8 => some (v7, σ8) := fun ρ => by
      unfold f_X12_valve_j46 f_X12_valve_j58
      rw [jn_e]
      rcases hb01 with rfl | rfl <;> rfl
    rcases hb01 with rfl | rfl
    · rw [if_pos rfl, if_pos rfl, e46]
      obtain ⟨σ', τ', c1, c2, c3⟩ := st_flip0 h hq (Or.inl rfl) h2
      unfold f_X11_valve_j77
      rw [c1, c2, cr_s, cl_s]
      exact ⟨_, _, _, rfl, rfl, c3⟩
    · obtain ⟨r, τ2, f1, f2, f3, f4, f5, f6, f7⟩ := hf
      rw [z1z, z1z, f1, f2, cr_s, cl_s]
      rcases f7 with rfl | f7
      · rw [if_pos rfl, if_pos (by decide), e46]
        obtain ⟨σ', τ', c1, c2, c3⟩ := st_flip0 f3 hq (Or.inr rfl) (by rw [f4]; exact h2)
        unfold f_X11_valve_j77
        rw [c1, c2, cr_s, cl_s]
        exact ⟨_, _, _, rfl, rfl, c3⟩
      · rw [if_neg (fun e => by rw [e] at f7; exact absurd f7 (by decide)), if_neg (fun e => absurd (Int32.lt_iff_toInt_lt.1 e) (by rw [l_0]; omega)), e_refuse7, e_no7, cl_s, cl_s]
        exact ok_ref f3
  · rw [if_neg h1, if_neg h1, z0z, z0z, e_refuse1, cl_s, e_no1, cl_s]
    exact ok_ref h
