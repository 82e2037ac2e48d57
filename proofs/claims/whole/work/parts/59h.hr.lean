/-! ===== both say the same of every rule ===== -/
theorem HR_ok {n : Nat} (hn : n < 512) {σ τ : Hp} (h : RR n σ τ) : HR n σ τ := by
  intro r hr ρ hρ h1 h2 h3
  obtain ⟨hw, h15⟩ := RR_RW hn hρ
  obtain ⟨L, S, b, c1, c2, c3, c4, c5, c6⟩ := c_truth hw hr
  have hr16 : r < 16 := by
    have := hρ.2.2.2.2.2.1.2.1.2
    omega
  obtain ⟨ρ', e1, e2, e3⟩ := m_holdsR hw hr16 c1 c2 c4 c5
  refine ⟨b, ρ', by rw [h15]; exact c6, e1, ?_, by rw [e2 104 (by decide)]; exact h1, by rw [e2 105 (by decide)]; exact h2, by rw [e2 106 (by decide)]; exact h3⟩
  refine RR_keep hρ (KC_0 σ) ⟨fun a ha => e2 a (fun hb => by revert ha hb; revert a; decide), fun j hj => e3 j ?_ ?_ ?_⟩ (fun _ _ => rfl) (fun a ha => e2 a (fun hb => by revert ha hb; revert a; decide)) (e3 23 (by omega) (by omega) (by omega))
  all_goals (intro e; subst e; revert hj; decide)
theorem st_forbids (n : Nat) (hn : n < 512) (a k : Int32) (hk : k = 0 ∨ k = 1) {σ τ : Hp} (h : RR n σ τ) : Ok32 n (f_X11_forbids a k σ) (f_X12_forbids a k τ) := st_forbids_of n a k hk h (HR_ok hn h)
theorem st_valve (n : Nat) (hn : n < 512) (a b : Int32) (hb : b = 0 ∨ b = 1) {σ τ : Hp} (h : RR n σ τ) : Ok32 n (f_X11_valve a b σ) (f_X12_valve a b τ) := st_valve_hr n a b hb h (HR_ok hn h)
theorem st_start (n : Nat) (hn : n < 512) (a b : Int32) (hb : b = 0 ∨ b = 1) {σ τ : Hp} (h : RR n σ τ) : Ok32 n (f_X11_start a b σ) (f_X12_start a b τ) := st_start_hr n a b hb h (HR_ok hn h)
