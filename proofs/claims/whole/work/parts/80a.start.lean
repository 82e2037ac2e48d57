/-! ===== both begin alike ===== -/
theorem bd_upd0 {f : Nat → Int32} {lo hi : Int} (h : ∀ k, bd (f k) lo hi) {x : Int32} (hx : bd x lo hi) (j : Nat) : ∀ k, bd (upd f j x k) lo hi := bd_upd h hx j
theorem bd_z {lo hi : Int} (h1 : lo ≤ 0) (h2 : 0 ≤ hi) : bd 0 lo hi := ⟨h1, h2⟩
theorem sm3_z (g : Nat) : ∀ n, sm3 (fun _ => 0) g n = 0
  | 0 => rfl
  | n + 1 => by
    show sm3 (fun _ => 0) g n + 0 = 0
    rw [sm3_z g n]; rfl
theorem tb0 (k : Nat) : Nat.testBit 0 k = false := Nat.zero_testBit k
theorem RR_0 : RR 0 z0 z0 := by
  have hz : ∀ {lo hi : Int}, lo ≤ 0 → 0 ≤ hi → bd 0 lo hi := bd_z
  have h68 : ∀ k, bd (z0.1 68 k) 0 9 := by
    have b : bd 1 0 9 := by unfold bd; decide
    exact bd_upd (bd_upd (bd_upd (bd_upd (bd_upd (bd_upd (bd_upd (bd_upd (bd_upd (fun _ => hz (by omega) (by omega)) b _) b _) b _) b _) b _) b _) b _) b _) b _
  have h69 : ∀ k, bd (z0.1 69 k) (-1) 9999 := by
    have b : bd (-1) (-1) 9999 := by unfold bd; decide
    exact bd_upd (bd_upd (bd_upd (fun _ => hz (by omega) (by omega)) b _) b _) b _
  have h78 : ∀ k, bd (z0.1 78 k) 0 20 := by
    have b : bd 3 0 20 := by unfold bd; decide
    exact bd_upd (bd_upd (bd_upd (bd_upd (bd_upd (bd_upd (bd_upd (bd_upd (fun _ => hz (by omega) (by omega)) b _) b _) b _) b _) b _) b _) b _) b _
  have h74 : ∀ k, k < 4 → bd (z0.1 74 k) 1 99 := by
    intro k hk
    rcases (show k = 0 ∨ k = 1 ∨ k = 2 ∨ k = 3 by omega) with rfl | rfl | rfl | rfl <;> exact (show bd 1 1 99 by unfold bd; decide)
  refine ⟨rfl, ?_, ?_, ?_, ?_, ?_, ?_, ?_, ?_, ?_, ?_, ?_⟩
  · exact ⟨⟨rfl, rfl, rfl⟩, ⟨hz (by omega) (by omega), hz (by omega) (by omega), hz (by omega) (by omega)⟩, ⟨rfl, rfl, rfl, rfl, rfl, rfl, rfl, rfl, rfl, rfl, rfl⟩, fun k hk => absurd hk (show ¬ (k : Int) < 0 by omega), fun _ => hz (by omega) (by omega), fun _ => hz (by omega) (by omega), fun _ => hz (by omega) (by omega), fun _ => hz (by omega) (by omega), fun k hk => absurd hk (show ¬ (k : Int) < 0 by omega), fun k hk => absurd hk (show ¬ (k : Int) < 0 by omega), fun _ => hz (by omega) (by omega), fun _ => hz (by omega) (by omega)⟩
  · refine ⟨⟨rfl, hz (by omega) (by omega)⟩, ⟨rfl, rfl, rfl, rfl⟩, fun k => Int.le_refl 0, fun k => Int.le_refl 0, fun k => ⟨Int.le_refl 0, Int.le_refl 0⟩, fun g hg => ⟨?_, ?_⟩, fun k hk h => absurd h (show ¬ (0 : Int) < 0 by omega), fun k _ => ⟨rfl, rfl, rfl⟩, fun g hg => rfl⟩
    · show sm3 (fun _ => 0) g 5 + sm3 (fun _ => 0) g 5 + sm3 (fun _ => 0) g 8 = 0
      rw [sm3_z, sm3_z]; rfl
    · show (0 : Int) ≤ _
      show (0 : Int) ≤ 99999 * ((0 : Nat) : Int) + 4995 * 0
      omega
  · refine ⟨0, 0, ⟨rfl, rfl, rfl, rfl, by omega⟩, fun _ => 0, fun _ => 0, fun _ => 0, ⟨rfl, rfl, rfl⟩, fun k => ?_, fun j _ => ⟨show 0 < 2 ^ 12 by decide, show 0 < 2 ^ 8 by decide, show 0 < 2 ^ 8 by decide, fun k _ => tb0 k, fun k _ => ⟨tb0 k, tb0 k⟩, fun k h => by rw [tb0] at h; cases h⟩, fun j hj => absurd hj (by omega)⟩
    have : bN 0 k = 0 := by
      unfold bN
      rw [tb0]; rfl
    rw [this]
    exact ⟨rfl, rfl, rfl⟩
  · exact ⟨rfl, hz (by omega) (by omega), rfl, fun _ => hz (by omega) (by omega)⟩
  · exact ⟨rfl, hz (by omega) (by omega), 0, 0, rfl, rfl, by decide, by decide, fun k _ => ⟨tb0 k, tb0 k⟩, fun r hr => absurd hr (show ¬ (r : Int) < 0 by omega)⟩
  · exact ⟨rfl, rfl, h68, h69⟩
  · exact ⟨⟨rfl, rfl, rfl, rfl⟩, fun _ => hz (by omega) (by omega), h74, fun _ => hz (by omega) (by omega), fun _ => hz (by omega) (by omega)⟩
  · exact ⟨⟨rfl, rfl, hz (by omega) (by omega), hz (by omega) (by omega)⟩, ⟨rfl, rfl, rfl, rfl, rfl⟩, h78, fun _ => hz (by omega) (by omega), fun _ => hz (by omega) (by omega), fun _ => hz (by omega) (by omega), fun _ => Or.inl rfl⟩
  · exact ⟨fun x y _ _ => ⟨rfl, Or.inl rfl⟩, rfl, rfl⟩
  · exact ⟨rfl, hz (by omega) (by omega), ⟨rfl, rfl, rfl⟩, fun k hk => absurd hk (show ¬ (k : Int) < 0 by omega)⟩
  · exact ⟨fun _ _ => rfl, fun _ _ => rfl, fun _ _ => rfl, fun _ _ => rfl⟩
