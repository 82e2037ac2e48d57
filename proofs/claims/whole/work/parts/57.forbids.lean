/-! ===== forbids, valve, start, from what both say of one rule ===== -/
theorem fb_leaf {n : Nat} {a k : Int32} {σ τ : Hp} (h : FB n a k σ τ) : Ok32 n (cr (f_X8_forbidder a k (σ.1 1 15) σ) fun v5 => some (v5, σ)) (f_X12_forbids_j29 a k τ ()) := by
  obtain ⟨r, τ2, f1, f2, f3, f4, f5, f6, f7⟩ := h
  unfold f_X12_forbids_j29
  rw [f1, f2, cr_s, cl_s]
  exact ⟨_, _, _, rfl, rfl, RR_same f3⟩
theorem fb_no {n : Nat} {σ τ : Hp} (h : RR n σ τ) : Ok32 n (cl (f_X11_refuse (-1 : Int32) σ) fun v3 σ4 => some (v3, σ4)) (f_X12_forbids_j23 τ ()) := by
  unfold f_X12_forbids_j23
  rw [e_refuse1, e_no1, cl_s, cl_s]
  exact ok_ref h
theorem st_forbids_of (n : Nat) (a k : Int32) (hk : k = 0 ∨ k = 1) {σ τ : Hp} (h : RR n σ τ) (hH : HR n σ τ) : Ok32 n (f_X11_forbids a k σ) (f_X12_forbids a k τ) := by
  obtain ⟨hF, hP, hR⟩ := id h
  have e21 : τ.1 86 21 = σ.1 1 6 := hP.1.2.1.symm
  have e22 : τ.1 86 22 = σ.1 1 11 := hP.1.2.2.symm
  unfold f_X11_forbids f_X12_forbids
  rw [jn_e, jn_e, jn_e]
  rcases hk with rfl | rfl
  · rw [z0z, z0z, k_isPipe, e21]
    unfold f_X11_forbids_j22
    rw [k_within]
    by_cases h1 : 0 ≤ a.toInt ∧ a.toInt < (σ.1 1 6).toInt
    · rw [if_pos h1, if_pos h1, z1z, z1z]
      exact fb_leaf (FB_of (Or.inl rfl) ⟨h1.1, by have := hP.2.1.2.1.2; omega⟩ h hH)
    · rw [if_neg h1, if_neg h1, z0z, z0z]
      exact fb_no h
  · rw [z1z, z1z, k_isPump, e22]
    unfold f_X11_forbids_j22
    rw [k_within]
    by_cases h1 : 0 ≤ a.toInt ∧ a.toInt < (σ.1 1 11).toInt
    · rw [if_pos h1, if_pos h1, z1z, z1z]
      exact fb_leaf (FB_of (Or.inr rfl) ⟨h1.1, by have := hP.2.1.2.2.2; omega⟩ h hH)
    · rw [if_neg h1, if_neg h1, z0z, z0z]
      exact fb_no h
theorem st_valve_hr (n : Nat) (a b : Int32) (hb : b = 0 ∨ b = 1) {σ τ : Hp} (h : RR n σ τ) (hH : HR n σ τ) : Ok32 n (f_X11_valve a b σ) (f_X12_valve a b τ) :=
  st_valve_of n a b hb h (fun h1 => FB_of (Or.inl rfl) ⟨h1.1, by have := h.2.1.2.1.2.1.2; omega⟩ h hH)
theorem st_start_hr (n : Nat) (a b : Int32) (hb : b = 0 ∨ b = 1) {σ τ : Hp} (h : RR n σ τ) (hH : HR n σ τ) : Ok32 n (f_X11_start a b σ) (f_X12_start a b τ) :=
  st_start_of n a b hb h (fun h1 => FB_of (Or.inr rfl) ⟨h1.1, by have := h.2.1.2.1.2.2.2; omega⟩ h hH)
