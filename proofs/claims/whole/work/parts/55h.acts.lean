theorem ff_e {α : Type} (x y : α) : (if false = true then x else y) = y := if_neg (by decide)
theorem tt_e {α : Type} (x y : α) : (if true = true then x else y) = x := if_pos rfl
theorem m_start0 (a b : Int32) (τ : Hp) : f_X12_start a b τ = if 0 ≤ a.toInt ∧ a.toInt < (τ.1 86 22).toInt then (ldI τ 105 8 a fun v4 => if v4 = b then some ((0 : Int32), τ) else if b = 0 then f_X12_start_j46 a b τ () else ldI τ 106 8 a fun v14 => if v14 = 0 then f_X12_start_j46 a b τ () else some ((-3 : Int32), rfM 3 τ)) else some ((-1 : Int32), rfM 1 τ) := by
  unfold f_X12_start
  rw [k_isPump]
  by_cases h1 : 0 ≤ a.toInt ∧ a.toInt < (τ.1 86 22).toInt
  · rw [if_pos h1, if_pos h1, z1z]
    rfl
  · rw [if_neg h1, if_neg h1, z0z]
    rfl
theorem c_start0 (a b : Int32) (σ : Hp) : f_X11_start a b σ = if 0 ≤ a.toInt ∧ a.toInt < (σ.1 1 11).toInt then (if b = 0 then f_X11_start_j40 a b σ 0 else f_X11_start_j40 a b σ 1) else some ((-1 : Int32), rfC 1 σ) := by
  unfold f_X11_start
  rw [k_within]
  by_cases h1 : 0 ≤ a.toInt ∧ a.toInt < (σ.1 1 11).toInt
  · rw [if_pos h1, if_pos h1, z1z, jn_e]
  · rw [if_neg h1, if_neg h1, z0z, e_refuse1, cl_s]
theorem st_start_of (n : Nat) (a b : Int32) (hb01 : b = 0 ∨ b = 1) {σ τ : Hp} (h : RR n σ τ) (hfb : 0 ≤ a.toInt ∧ a.toInt < (σ.1 1 11).toInt → FB n a 1 σ τ) : Ok32 n (f_X11_start a b σ) (f_X12_start a b τ) := by
  obtain ⟨hF, hP, hG, hA, hR⟩ := id h
  obtain ⟨d, u, ⟨r3, m50, r4, m51, hdu⟩, so, sn, sw, ⟨o1, o2, o3⟩, o4, o5, o6⟩ := hA
  have e22 : τ.1 86 22 = σ.1 1 11 := hP.1.2.2.symm
  have bp : bd (σ.1 1 11) 0 8 := ⟨hP.2.1.2.2.1, hP.2.1.2.2.2⟩
  have hS := o5 d (by omega)
  rw [c_start0, m_start0, e22]
  by_cases h1 : 0 ≤ a.toInt ∧ a.toInt < (σ.1 1 11).toInt
  · have hf := hfb h1
    have ea := n_of h1.1
    generalize hk0 : a.toInt.toNat = q at ea
    subst ea
    have hq8 : q < 8 := by have := bp.2; omega
    have hq : (q : Int) < (σ.1 1 11).toInt := by have := h1.2; rw [nI_toInt (by omega)] at this; exact this
    have eb : (if b = 0 then f_X11_start_j40 (nI q) b σ 0 else f_X11_start_j40 (nI q) b σ 1) = f_X11_start_j40 (nI q) b σ b := by
      rcases hb01 with rfl | rfl
      · rw [z0z]
      · rw [z1z]
    rw [if_pos h1, if_pos h1, eb, ldI_n (by omega) (by omega)]
    unfold f_X11_start_j40
    rw [o2, bitC (by have := hS.2.1; omega) (by omega), show (if (sn d).testBit q = true then (1 : Int32) else 0) = τ.1 105 q from (o4 q).2.1.symm]
    by_cases h2 : τ.1 105 q = b
    · rw [if_pos h2, if_pos h2]
      exact ⟨_, _, _, rfl, rfl, RR_same h⟩
    rw [if_neg h2, if_neg h2, jn_e]
    have e66 : ∀ ρ, f_X12_start_j66 (nI q) b ρ = cl (f_X12_acts 1 (nI q) b ρ) fun v7 σ8 => some (v7, σ8) := fun ρ => by
      unfold f_X12_start_j66 f_X12_start_j78
      rw [jn_e]
      rcases hb01 with rfl | rfl
      · rw [z0z]
      · rw [z1z]
    unfold f_X11_start_j71 f_X12_start_j46
    rcases hb01 with rfl | rfl
    · rw [if_pos rfl, if_pos rfl, jn_e, jn_e, if_pos rfl, if_pos rfl, e66]
      obtain ⟨σ', τ', c1, c2, c3⟩ := st_flip1 h hq (Or.inl rfl) h2 (fun e => absurd e (by decide))
      unfold f_X11_start_j103
      rw [c1, c2, cr_s, cl_s]
      exact ⟨_, _, _, rfl, rfl, c3⟩
    · rw [z1z, z1z, o3, bit1 (by have := hS.2.2.1; omega) (by omega), ldI_n (by omega) (by omega), (o4 q).2.2, bN_0]
      cases hw : (sw d).testBit q
      · obtain ⟨r, τ2, f1, f2, f3, f4, f5, f6, f7⟩ := hf
        rw [ff_e, ff_e, jn_e, jn_e, z1z, z1z, f1, f2, cr_s, cl_s]
        rcases f7 with rfl | f7
        · rw [if_pos rfl, if_pos (by decide), e66]
          obtain ⟨σ', τ', c1, c2, c3⟩ := st_flip1 f3 hq (Or.inr rfl) (by rw [f5]; exact h2) (fun _ => by rw [f6, (o4 q).2.2]; unfold bN; rw [hw]; rfl)
          unfold f_X11_start_j103
          rw [c1, c2, cr_s, cl_s]
          exact ⟨_, _, _, rfl, rfl, c3⟩
        · rw [if_neg (fun e => by rw [e] at f7; exact absurd f7 (by decide)), if_neg (fun e => absurd (Int32.lt_iff_toInt_lt.1 e) (by rw [l_0]; omega)), e_refuse7, e_no7, cl_s, cl_s]
          exact ok_ref f3
      · rw [tt_e, tt_e, e_refuse3, cl_s]
        exact ok_ref h
  · rw [if_neg h1, if_neg h1]
    exact ok_ref h
