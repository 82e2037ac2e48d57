/-! ===== the class's truth of a rule ===== -/
theorem r16_at (σ : Hp) : ∀ r, r < 16 → r16 (σ.1 36) (σ.1 37) (σ.1 38) (σ.1 39) (σ.1 40) (σ.1 41) (σ.1 42) (σ.1 43) (σ.1 44) (σ.1 45) (σ.1 46) (σ.1 47) (σ.1 48) (σ.1 49) (σ.1 50) (σ.1 51) r = σ.1 (36 + r)
  | 0, _ => rfl | 1, _ => rfl | 2, _ => rfl | 3, _ => rfl | 4, _ => rfl | 5, _ => rfl | 6, _ => rfl | 7, _ => rfl | 8, _ => rfl | 9, _ => rfl | 10, _ => rfl | 11, _ => rfl | 12, _ => rfl | 13, _ => rfl | 14, _ => rfl | 15, _ => rfl
  | r + 16, h => absurd h (by omega)
/-- a compare's truth, as the class says it -/
def evC (mo : Nat) (σ : Hp) (c : Int32) : Bool := decide (f_X8_compares c (nI mo) σ = some 1)
theorem evC_e {mo : Nat} {σ τ : Hp} (h : RW mo σ τ) (c : Int32) : f_X8_compares c (nI mo) σ = some (oB (evC mo σ c)) := by
  obtain ⟨b, hb⟩ := c_cmp h c (nI mo)
  unfold evC
  rw [hb]
  cases b <;> rfl
theorem c_truth {mo : Nat} {σ τ : Hp} (h : RW mo σ τ) {r : Nat} (hr : (r : Int) < (σ.1 32 2).toInt) : ∃ (L : Nat) (S : List Int32) (b : Bool), τ.1 117 r = nI L ∧ L ≤ 40 ∧ (∀ k, k < L → bd (τ.1 116 (40 * r + k)) 0 255) ∧ sT (fun k => τ.1 116 (40 * r + k)) L 24 0 0 3 = (L, some S) ∧ Push (evC mo σ) S b ∧ f_X8_holds (nI r) (nI mo) σ = some (oB b) := by
  obtain ⟨pl, x, k, -, -, -, -, hU⟩ := id h
  obtain ⟨u1, u2, s, p, u3, u4, u5, u6, u7, u8⟩ := hU
  have hr16 : r < 16 := by have := u2.2; omega
  obtain ⟨v1, v2, v3, v4, L, w1, w2, w3, S, w4, w5, w6, w7⟩ := u8 r hr
  obtain ⟨b, hb⟩ := sT_push (ev := evC mo σ) 24 0 0 3 L S w4
  rw [r16_at σ r hr16] at w7
  exact ⟨L, S, b, w1, w2, w3, w4, hb, c_holds hr16 w5 w6 w7 (fun k hk _ _ _ => evC_e h _) (push_run hb)⟩
