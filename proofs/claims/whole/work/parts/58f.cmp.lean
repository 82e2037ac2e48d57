/-! ===== a compare has a truth ===== -/
theorem and15 (x : Int32) : ∃ w, w < 16 ∧ x &&& (15 : Int32) = nI w := by
  refine ⟨x.toBitVec.toNat % 16, Nat.mod_lt _ (by omega), ?_⟩
  apply i32_tn
  rw [Int32.toBitVec_and, BitVec.toNat_and, pk_tn (by omega)]
  show x.toBitVec.toNat &&& (2 ^ 4 - 1) = _
  rw [Nat.and_two_pow_sub_one_eq_mod]
theorem oB_ex {P : Prop} [Decidable P] (f : Int32 → Option Int32) (hf : ∀ b : Bool, f (oB b) = some (oB b)) : (∃ b, (if P then f 0 else f 1) = some (oB b)) ∧ ∃ b, (if P then f 1 else f 0) = some (oB b) := by
  by_cases h : P
  · rw [if_pos h, if_pos h]; exact ⟨⟨false, hf false⟩, ⟨true, hf true⟩⟩
  · rw [if_neg h, if_neg h]; exact ⟨⟨true, hf true⟩, ⟨false, hf false⟩⟩
theorem ckZ_b (b : Bool) : ckZ (oB b) (some (oB b)) = some (oB b) := by cases b <;> rfl
theorem cmp_j (c v : Int32) : ∃ b, f_X8_compares_j144 c v = some (oB b) := by
  unfold f_X8_compares_j144
  rw [lt_e]
  split
  · rw [jn_e]; exact (oB_ex f_X8_compares_j196 (fun b => ckZ_b b)).1
  · split
    · rw [jn_e]; exact (oB_ex f_X8_compares_j209 (fun b => ckZ_b b)).2
    · rw [jn_e]; exact (oB_ex f_X8_compares_j222 (fun b => ckZ_b b)).1
theorem c_cmp {mo : Nat} {σ τ : Hp} (h : RW mo σ τ) (c a2 : Int32) : ∃ b, f_X8_compares c a2 σ = some (oB b) := by
  obtain ⟨pl, x, k, ⟨hB, hC, hM⟩, -, ⟨g1, -, l1⟩, -, -⟩ := h
  obtain ⟨w, hw, ew⟩ := and15 (c >>> ((5 : Int32) &&& 31))
  have hb0 := hB.1.1
  have e0 : σ.1 1 0 = nI (pl 1 0) := hC.1.1
  unfold f_X8_compares f_X8_compares_j75 f_X8_compares_j104
  rw [lt_e, jn_e, ew, e0]
  split
  · rw [jn_e]
    by_cases h1 : pl 1 0 ≤ w
    · rw [le_t h1 (by omega)]; exact cmp_j _ _
    · rw [le_f (by omega) (by omega), c_push13 hB hC g1 l1 (by omega), cr_s]; exact cmp_j _ _
  · split
    · rw [jn_e]
      by_cases h1 : pl 1 0 ≤ w
      · rw [le_t h1 (by omega)]; exact cmp_j _ _
      · rw [le_f (by omega) (by omega), ldI_n (by omega) (by omega)]; exact cmp_j _ _
    · split
      · rw [lt_e]; exact cmp_j _ _
      · split
        · rw [lt_e]; exact cmp_j _ _
        · rw [lt_e]; exact cmp_j _ _
