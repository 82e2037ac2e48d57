/-! ===== what a rule's truth depends on; which pumps are on is told apart ===== -/
def plon (pl : Nat → Nat → Nat) (m : Nat) : Nat → Nat → Nat := fun c k => if c = 1 then (if k = 15 then m else pl 1 k) else pl c k
def RW (mo : Nat) (σ ρ : Hp) : Prop := ∃ (pl : Nat → Nat → Nat) (x : Nat → Nat) (k : Nat), (PB pl ∧ PC σ pl ∧ PM ρ (plon pl mo)) ∧ (mo < 2 ^ 8 ∧ (∀ j, pl 1 11 ≤ j → mo.testBit j = false) ∧ ∀ j, pl 1 6 ≤ j → (pl 1 10).testBit j = false) ∧ (σ.1 14 = nrow x ∧ ρ.1 99 = nrow x ∧ ∀ j, j < 15 → x j < 700000000) ∧ (σ.1 13 0 = nI k ∧ k ≤ 5000 ∧ ρ.1 86 23 = nI k) ∧
  RU (σ.1 32) (σ.1 33) (σ.1 34) (ρ.1 86 38) (ρ.1 116) (ρ.1 117) (ρ.1 119) (r16 (σ.1 36) (σ.1 37) (σ.1 38) (σ.1 39) (σ.1 40) (σ.1 41) (σ.1 42) (σ.1 43) (σ.1 44) (σ.1 45) (σ.1 46) (σ.1 47) (σ.1 48) (σ.1 49) (σ.1 50) (σ.1 51))
theorem plon_B {pl : Nat → Nat → Nat} {mo : Nat} (h : PB pl) (hm : mo < 2 ^ 8) : PB (plon pl mo) := by
  obtain ⟨⟨h1, h2, h3, h4, h5⟩, h6⟩ := h
  exact ⟨⟨h1, h2, h3, h4, hm⟩, h6⟩
theorem plon_same (pl : Nat → Nat → Nat) : plon pl (pl 1 15) = pl := by
  funext c k
  unfold plon
  by_cases h : c = 1
  · rw [if_pos h]
    by_cases h2 : k = 15
    · rw [if_pos h2, h, h2]
    · rw [if_neg h2, h]
  · rw [if_neg h]
theorem RR_RW {n : Nat} (hn : n < 512) {σ ρ : Hp} (h : RR n σ ρ) : RW (plN σ 1 15) σ ρ ∧ σ.1 1 15 = nI (plN σ 1 15) := by
  obtain ⟨hB, hC, hM⟩ := RR_pl h
  obtain ⟨x, k, u0, u1, u2, gc, gm, ni, ou, wn, hz⟩ := RR_gs h
  obtain ⟨l1, l2, l3, l4⟩ := GS_lt ni (by omega)
  refine ⟨⟨plN σ, x.1.1, k, ⟨hB, hC, by rw [plon_same]; exact hM⟩, ?_, ⟨gc.1, gm.1, l1⟩, ⟨u0, u1, u2⟩, h.2.2.2.2.2.1⟩, hC.1.2.2.2.2⟩
  obtain ⟨-, -, -, hA, -⟩ := h
  obtain ⟨d, u, -, so, sn, sw, ⟨a0, a1, -⟩, -, a5, -⟩ := hA
  obtain ⟨c1, c2, -, c4, c5, -⟩ := a5 d (by omega)
  have b1 := hB.1.2.1
  have b2 := hB.1.2.2.1
  have s1 : plN σ 1 10 < 2 ^ 12 := hB.1.2.2.2.1
  have s2 : plN σ 1 15 < 2 ^ 8 := hB.1.2.2.2.2
  have e6 : (σ.1 1 6).toInt = (plN σ 1 6 : Int) := by rw [hC.1.2.1, nI_toInt (by omega)]
  have e11 : (σ.1 1 11).toInt = (plN σ 1 11 : Int) := by rw [hC.1.2.2.1, nI_toInt (by omega)]
  have q1 : plN σ 1 10 = so d := (nI_eq (by omega) (by omega)).1 (hC.1.2.2.2.1.symm.trans a0)
  have q2 : plN σ 1 15 = sn d := (nI_eq (by omega) (by omega)).1 (hC.1.2.2.2.2.symm.trans a1)
  exact ⟨s2, fun j hj => by rw [q2]; exact (c5 j (by omega)).1, fun j hj => by rw [q1]; exact c4 j (by omega)⟩
