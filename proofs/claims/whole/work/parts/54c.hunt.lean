/-! ===== the hunt: counting ===== -/
theorem in_C {m : Nat} (hm : m < 256) (t : Int32 × Int32 × Hp) (ht : t.2.1 = nI m) (k : Int32 × Hp → Option (Int32 × Hp)) (x : Int32) (σ : Hp) (a : Nat → Nat) (ha : ∀ p, p < 8 → σ.1 84 p = nI (a p)) : ∃ σ', lp (f_X9_countFitting_l44 t k x) FU ((0 : Int32), σ) = k (x, σ') ∧ (∀ p, p < 8 → σ'.1 84 p = nI (a p + (if m.testBit p then 1 else 0))) ∧ fr [84] σ σ' := by
  refine lp_h (Q := fun r => ∃ σ', r = k (x, σ') ∧ (∀ p, p < 8 → σ'.1 84 p = nI (a p + (if m.testBit p then 1 else 0))) ∧ fr [84] σ σ') 8 (fun q ρ => ((∀ p, p < q → ρ.1 84 p = nI (a p + (if m.testBit p then 1 else 0))) ∧ (∀ p, q ≤ p → p < 8 → ρ.1 84 p = nI (a p))) ∧ fr [84] σ ρ) ?_ ?_ (by omega) ⟨⟨fun p hp => absurd hp (by omega), fun p _ hp => ha p hp⟩, fr_0 _ _⟩
  · rintro q ρ hq ⟨⟨h1, h2⟩, h3⟩ K
    refine ⟨sI ρ 84 q (nI (a q + (if m.testBit q then 1 else 0))), ⟨⟨fun p hp => ?_, fun p hp hp8 => ?_⟩, fr_s (by decide) h3⟩, ?_⟩
    · show upd (ρ.1 84) q _ p = _
      by_cases e : p = q
      · rw [e, pk_us]
      · rw [pk_un e]; exact h1 p (by omega)
    · show upd (ρ.1 84) q _ p = _
      rw [pk_un (by omega)]; exact h2 p (by omega) hp8
    · unfold f_X9_countFitting_l44
      dsimp only
      rw [n_8, le_f hq (by omega), ldI_n (by omega) (by omega), h2 q (Nat.le_refl _) hq, ht, bitC (by omega) (by omega)]
      rw [stI_n (by omega) (by omega), lt_e, nI_1]
      cases m.testBit q
      · show K (_, sI ρ 84 q (nI _ + 0)) = _
        rw [Int32.add_zero]
        rfl
      · simp only [if_true, nI_1]
  · rintro ρ ⟨⟨h1, h2⟩, h3⟩ K
    refine ⟨ρ, ?_, h1, h3⟩
    unfold f_X9_countFitting_l44
    dsimp only
    rw [n_8, le_t (Nat.le_refl _) (by omega)]
theorem out_C {h : Hd} {σ : Hp} (hB : HB h) (hC : HC σ h) (h83 : ∀ i, i < h.T → σ.1 83 i = nI (shwN h i h.S)) (ha : ∀ p, p < 8 → σ.1 84 p = 0) : ∃ σ', lp (f_X9_countFitting_l16) FU ((0 : Int32), (0 : Int32), σ) = some (nI (ctNh h 256), σ') ∧ (∀ p, p < 8 → σ'.1 84 p = nI (hvN h p 256)) ∧ fr [84] σ σ' := by
  refine lp_n (s := ((0 : Int32), (0 : Int32), σ)) (Q := fun r => ∃ σ', r = some (nI (ctNh h 256), σ') ∧ (∀ p, p < 8 → σ'.1 84 p = nI (hvN h p 256)) ∧ fr [84] σ σ') 256 (fun m (s : Int32 × Int32 × Hp) => (s.1 = nI (ctNh h m) ∧ s.2.1 = nI m) ∧ (∀ p, p < 8 → s.2.2.1 84 p = nI (hvN h p m)) ∧ fr [84] σ s.2.2) ?_ ?_ 0 (Nat.zero_le _) (by omega) ⟨⟨rfl, rfl⟩, ha, fr_0 _ _⟩
  · rintro m ⟨c, q, ρ⟩ hm ⟨⟨h1, h2⟩, h3, h4⟩ K
    obtain rfl : c = nI (ctNh h m) := h1
    obtain rfl : q = nI m := h2
    dsimp only at h3 h4
    have hC2 := HC_fr (by decide) h4 hC
    have hct := ctN_le h m
    have h83' : ∀ i, i < h.T → ρ.1 83 i = nI (shwN h i h.S) := fun i hi => by rw [h4 83 (by decide)]; exact h83 i hi
    have hf : ∀ y : Option (Int32 × Hp), ∀ g : Unit → Option (Int32 × Hp), (if (2 : Int32) < nI (pcN m 16) then y else cr (f_X9_fits (nI m) ρ) fun v7 => if v7 = 0 then y else g ()) = if fitN h m then g () else y := fun y g => by
      rw [le2 h]
      unfold fitN
      by_cases e : pcN m 16 ≤ 2
      · rw [if_pos e, decide_eq_true e, Bool.true_and, c_fits hB hC2 h83' hm, cr_s, oB_0]
      · rw [if_neg e, decide_eq_false e, Bool.false_and]; rfl
    cases hfit : fitN h m
    · refine ⟨(nI (ctNh h (m + 1)), nI (m + 1), ρ), ⟨⟨rfl, rfl⟩, fun p hp => ?_, h4⟩, ?_⟩
      · show ρ.1 84 p = nI (hvN h p m + (if fitN h m && m.testBit p then 1 else 0))
        rw [hfit]; exact h3 p hp
      · show f_X9_countFitting_l16 K (nI (ctNh h m), nI m, ρ) = K (nI (ctNh h m + (if fitN h m then 1 else 0)), _)
        unfold f_X9_countFitting_l16
        dsimp only
        rw [show (256 : Int32) = nI 256 from rfl, le_f hm (by omega), bc_e (show m < 65536 by omega), cr_s, jn_e]
        refine (hf _ (fun _ => _)).trans ?_
        rw [hfit]
        unfold f_X9_countFitting_j70
        dsimp only
        rw [lt_e, nI_1]
        rfl
    · obtain ⟨ρ2, g1, g2, g3⟩ := in_C hm (nI (ctNh h m), nI m, ρ) rfl (fun s => K (s.1, nI (m + 1), s.2)) (nI (ctNh h m + 1)) ρ (fun p => hvN h p m) h3
      refine ⟨(nI (ctNh h (m + 1)), nI (m + 1), ρ2), ⟨⟨rfl, rfl⟩, fun p hp => ?_, fr_t h4 g3⟩, ?_⟩
      · show ρ2.1 84 p = nI (hvN h p m + (if fitN h m && m.testBit p then 1 else 0))
        rw [hfit, Bool.true_and]; exact g2 p hp
      · show f_X9_countFitting_l16 K (nI (ctNh h m), nI m, ρ) = K (nI (ctNh h m + (if fitN h m then 1 else 0)), _)
        unfold f_X9_countFitting_l16
        dsimp only
        rw [show (256 : Int32) = nI 256 from rfl, le_f hm (by omega), bc_e (show m < 65536 by omega), cr_s, jn_e]
        refine (hf _ (fun _ => _)).trans ?_
        rw [hfit]
        simp only [if_true]
        rw [lt_e, nI_1, ← g1]
        have hj : f_X9_countFitting_j70 (nI (ctNh h m), nI m, ρ) K = fun s => K (s.1, nI (m + 1), s.2) := by
          funext s
          unfold f_X9_countFitting_j70
          dsimp only
          rw [lt_e, nI_1]
        rw [hj]
  · rintro ⟨c, q, ρ⟩ ⟨⟨h1, h2⟩, h3, h4⟩ K
    obtain rfl : c = nI (ctNh h 256) := h1
    obtain rfl : q = nI 256 := h2
    refine ⟨ρ, ?_, h3, h4⟩
    unfold f_X9_countFitting_l16
    dsimp only
    rw [show (256 : Int32) = nI 256 from rfl, le_t (Nat.le_refl _) (by omega)]
theorem in_M {m : Nat} (hm : m < 256) (t : Int32 × Int32 × Hp) (ht : t.2.1 = nI m) (k : Int32 × Hp → Option (Int32 × Hp)) (x : Int32) (σ : Hp) (a : Nat → Nat) (ha : ∀ p, p < 8 → σ.1 147 p = nI (a p)) : ∃ σ', lp (f_X12_hunt_l76 t k x) FU ((0 : Int32), σ) = k (x, σ') ∧ (∀ p, p < 8 → σ'.1 147 p = nI (a p + (if m.testBit p then 1 else 0))) ∧ fr [147] σ σ' := by
  refine lp_h (Q := fun r => ∃ σ', r = k (x, σ') ∧ (∀ p, p < 8 → σ'.1 147 p = nI (a p + (if m.testBit p then 1 else 0))) ∧ fr [147] σ σ') 8 (fun q ρ => ((∀ p, p < q → ρ.1 147 p = nI (a p + (if m.testBit p then 1 else 0))) ∧ (∀ p, q ≤ p → p < 8 → ρ.1 147 p = nI (a p))) ∧ fr [147] σ ρ) ?_ ?_ (by omega) ⟨⟨fun p hp => absurd hp (by omega), fun p _ hp => ha p hp⟩, fr_0 _ _⟩
  · rintro q ρ hq ⟨⟨h1, h2⟩, h3⟩ K
    refine ⟨sI ρ 147 q (nI (a q + (if m.testBit q then 1 else 0))), ⟨⟨fun p hp => ?_, fun p hp hp8 => ?_⟩, fr_s (by decide) h3⟩, ?_⟩
    · show upd (ρ.1 147) q _ p = _
      by_cases e : p = q
      · rw [e, pk_us]
      · rw [pk_un e]; exact h1 p (by omega)
    · show upd (ρ.1 147) q _ p = _
      rw [pk_un (by omega)]; exact h2 p (by omega) hp8
    · unfold f_X12_hunt_l76
      dsimp only
      rw [n_8, le_f hq (by omega), ldI_n (by omega) (by omega), h2 q (Nat.le_refl _) hq, ht, bitC (by omega) (by omega)]
      rw [stI_n (by omega) (by omega), lt_e, nI_1]
      cases m.testBit q
      · show K (_, sI ρ 147 q (nI _ + 0)) = _
        rw [Int32.add_zero]
        rfl
      · simp only [if_true, nI_1]
  · rintro ρ ⟨⟨h1, h2⟩, h3⟩ K
    refine ⟨ρ, ?_, h1, h3⟩
    unfold f_X12_hunt_l76
    dsimp only
    rw [n_8, le_t (Nat.le_refl _) (by omega)]
theorem out_M {h : Hd} {σ : Hp} (hB : HB h) (hC : HM σ h)  (ha : ∀ p, p < 8 → σ.1 147 p = 0) (KK : Int32 × Hp → Option (Int32 × Hp)) : ∃ σ', lp (f_X12_hunt_l44 KK) FU ((0 : Int32), (0 : Int32), σ) = KK (nI (ctNh h 256), σ') ∧ (∀ p, p < 8 → σ'.1 147 p = nI (hvN h p 256)) ∧ fr [147] σ σ' := by
  refine lp_n (Q := fun r => ∃ σ', r = KK (nI (ctNh h 256), σ') ∧ (∀ p, p < 8 → σ'.1 147 p = nI (hvN h p 256)) ∧ fr [147] σ σ') 256 (fun m (s : Int32 × Int32 × Hp) => (s.1 = nI (ctNh h m) ∧ s.2.1 = nI m) ∧ (∀ p, p < 8 → s.2.2.1 147 p = nI (hvN h p m)) ∧ fr [147] σ s.2.2) ?_ ?_ 0 (Nat.zero_le _) (by omega) ⟨⟨rfl, rfl⟩, ha, fr_0 _ _⟩
  · rintro m ⟨c, q, ρ⟩ hm ⟨⟨h1, h2⟩, h3, h4⟩ K
    obtain rfl : c = nI (ctNh h m) := h1
    obtain rfl : q = nI m := h2
    dsimp only at h3 h4
    have hC2 := HM_fr (by decide) h4 hC
    have hct := ctN_le h m
    
    have hf : ∀ y : Option (Int32 × Hp), ∀ g : Unit → Option (Int32 × Hp), (if (2 : Int32) < nI (pcN m 16) then y else cr (f_X12_fits (nI m) ρ) fun v7 => if v7 = 0 then y else g ()) = if fitN h m then g () else y := fun y g => by
      rw [le2 h]
      unfold fitN
      by_cases e : pcN m 16 ≤ 2
      · rw [if_pos e, decide_eq_true e, Bool.true_and, m_fits hB hC2 hm, cr_s, oB_0]
      · rw [if_neg e, decide_eq_false e, Bool.false_and]; rfl
    cases hfit : fitN h m
    · refine ⟨(nI (ctNh h (m + 1)), nI (m + 1), ρ), ⟨⟨rfl, rfl⟩, fun p hp => ?_, h4⟩, ?_⟩
      · show ρ.1 147 p = nI (hvN h p m + (if fitN h m && m.testBit p then 1 else 0))
        rw [hfit]; exact h3 p hp
      · show f_X12_hunt_l44 KK K (nI (ctNh h m), nI m, ρ) = K (nI (ctNh h m + (if fitN h m then 1 else 0)), _)
        unfold f_X12_hunt_l44
        dsimp only
        rw [show (256 : Int32) = nI 256 from rfl, le_f hm (by omega), m_bits hm, cr_s, jn_e]
        refine (hf _ (fun _ => _)).trans ?_
        rw [hfit]
        unfold f_X12_hunt_j105
        dsimp only
        rw [lt_e, nI_1]
        rfl
    · obtain ⟨ρ2, g1, g2, g3⟩ := in_M hm (nI (ctNh h m), nI m, ρ) rfl (fun s => K (s.1, nI (m + 1), s.2)) (nI (ctNh h m + 1)) ρ (fun p => hvN h p m) h3
      refine ⟨(nI (ctNh h (m + 1)), nI (m + 1), ρ2), ⟨⟨rfl, rfl⟩, fun p hp => ?_, fr_t h4 g3⟩, ?_⟩
      · show ρ2.1 147 p = nI (hvN h p m + (if fitN h m && m.testBit p then 1 else 0))
        rw [hfit, Bool.true_and]; exact g2 p hp
      · show f_X12_hunt_l44 KK K (nI (ctNh h m), nI m, ρ) = K (nI (ctNh h m + (if fitN h m then 1 else 0)), _)
        unfold f_X12_hunt_l44
        dsimp only
        rw [show (256 : Int32) = nI 256 from rfl, le_f hm (by omega), m_bits hm, cr_s, jn_e]
        refine (hf _ (fun _ => _)).trans ?_
        rw [hfit]
        simp only [if_true]
        rw [lt_e, nI_1, ← g1]
        have hj : f_X12_hunt_j105 (nI (ctNh h m), nI m, ρ) K = fun s => K (s.1, nI (m + 1), s.2) := by
          funext s
          unfold f_X12_hunt_j105
          dsimp only
          rw [lt_e, nI_1]
        rw [hj]
  · rintro ⟨c, q, ρ⟩ ⟨⟨h1, h2⟩, h3, h4⟩ K
    obtain rfl : c = nI (ctNh h 256) := h1
    obtain rfl : q = nI 256 := h2
    refine ⟨ρ, ?_, h3, h4⟩
    unfold f_X12_hunt_l44
    dsimp only
    rw [show (256 : Int32) = nI 256 from rfl, le_t (Nat.le_refl _) (by omega)]
