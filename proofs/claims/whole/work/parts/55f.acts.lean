/-! ===== warmUp ===== -/
theorem st_warmUp (n : Nat) (a : Int32) {σ τ : Hp} (h : RR n σ τ) : Ok32 n (f_X11_warmUp a σ) (f_X12_warmUp a τ) := by
  obtain ⟨hF, hP, hG, hA, hR⟩ := id h
  obtain ⟨d, u, ⟨r3, m50, r4, m51, hdu⟩, so, sn, sw, ⟨o1, o2, o3⟩, o4, o5, o6⟩ := hA
  have e22 : τ.1 86 22 = σ.1 1 11 := hP.1.2.2.symm
  have e97 : τ.1 97 = σ.1 12 := hP.2.2.1.2.2.2.2.2.2.2.2.2.2.symm
  have bu : bd (σ.1 1 11) 0 8 := ⟨hP.2.1.2.2.1, hP.2.1.2.2.2⟩
  have bl : ∀ k, bd (σ.1 12 k) 0 99999 := hP.2.2.2.2.2.2.2.2.2.2.2
  have hS := o5 d (by omega)
  unfold f_X11_warmUp f_X12_warmUp f_X12_warmUp_j50
  rw [k_within, k_isPump, e22]
  by_cases h1 : 0 ≤ a.toInt ∧ a.toInt < (σ.1 1 11).toInt
  · have ea := n_of h1.1
    generalize hk0 : a.toInt.toNat = q at ea
    subst ea
    have hq8 : q < 8 := by have := bu.2; omega
    have hq : (q : Int) < (σ.1 1 11).toInt := by have := h1.2; rw [nI_toInt (by omega)] at this; exact this
    rw [if_pos h1, if_pos h1, z1z, z1z, ldI_n (by omega) (by omega), ldI_n (by omega) (by omega), e97]
    by_cases h2 : σ.1 12 q = 0
    · rw [if_pos h2, if_pos h2, e_refuse3, cl_s, e_no3, cl_s]
      exact ok_ref h
    rw [if_neg h2, if_neg h2, ldI_n (by omega) (by omega), (o4 q).2.2, jn_e, o3, bit1 (by have := hS.2.2.1; omega) (by omega), bN_0]
    cases hb : (sw d).testBit q
    · simp only [Bool.false_eq_true, if_false]
      have hl : 0 < (σ.1 12 q).toInt := by
        have := (bl q).1
        have : (σ.1 12 q).toInt ≠ 0 := fun e => h2 (Int32.toInt_inj.1 (by rw [e]; rfl))
        omega
      have hS' : SO (so d) (sn d &&& (2 ^ 8 - 1 - 2 ^ q)) (sw d ||| 2 ^ q) (σ.1 1 6) (σ.1 1 11) (σ.1 12) := by
        refine ⟨hS.1, Nat.lt_of_le_of_lt Nat.and_le_left hS.2.1, Nat.or_lt_two_pow hS.2.2.1 (Nat.pow_lt_pow_right (by omega) hq8), hS.2.2.2.1, fun k hk => ⟨?_, ?_⟩, fun k hk => ?_⟩
        · rw [clr8_t hS.2.1 hq8, (hS.2.2.2.2.1 k hk).1]; rfl
        · rw [or_t, (hS.2.2.2.2.1 k hk).2, decide_eq_false (by omega)]; rfl
        · rw [or_t] at hk
          rw [clr8_t hS.2.1 hq8]
          by_cases e : k = q
          · subst e
            rw [decide_eq_true rfl, Bool.not_true, Bool.and_false]
            exact ⟨rfl, hl⟩
          · rw [decide_eq_false e, Bool.or_false] at hk
            obtain ⟨g1, g2⟩ := hS.2.2.2.2.2 k hk
            rw [g1]
            exact ⟨rfl, g2⟩
      obtain ⟨σ', τ', c1, c2, c3⟩ := st_do h r3 m50 hdu o1 o2 o3 o4 o5 o6 (kind := 2) (v := 2) (mw := bN (sn d) q) (q := q) (so' := so d) (sn' := sn d &&& (2 ^ 8 - 1 - 2 ^ q)) (sw' := sw d ||| 2 ^ q)
        ⟨q, rfl, rfl, Or.inr (Or.inr ⟨rfl, rfl, hq, rfl, rfl, rfl, hb, rfl, rfl, rfl⟩)⟩ (fun ρ hρ => m_state1 (by decide) hρ hq8 hb) hS'
      rw [c1, c2, cr_s, cl_s]
      exact ⟨_, _, _, rfl, rfl, c3⟩
    · simp only [if_true]
      exact ⟨_, _, _, rfl, rfl, RR_same h⟩
  · rw [if_neg h1, if_neg h1, z0z, z0z, e_refuse1, cl_s, e_no1, cl_s]
    exact ok_ref h
