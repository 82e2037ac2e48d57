/-! ===== a compare has a truth ===== -/
theorem and15 (x : Int32) : ∃ w, w < 16 ∧ x &&& (15 : Int32) = nI w := by
  refine ⟨x.toBitVec.toNat % 16, Nat.mod_lt _ (by omega), ?_⟩
  apply i32_tn
  rw [Int32.toBitVec_and, BitVec.toNat_and, pk_tn (by omega)]
  show x.toBitVec.toNat &&& (2 ^ 4 - 1) = _
  rw [Nat.and_two_pow_sub_one_eq_mod]
theorem oB_ex {P : Prop} [Decidable P] (f : Int32 → Option Int32) (hf : ∀ b : Bool, f (oB b) = some (oB b)) : (∃ b, (if P then f 0 else f 1) = some (oB b)) ∧ ∃ b, (if P then f 1 else f 0) = some (oB b) := by
  by_cases h : P
  · rw [if_pos h, if_pos h]; exact ⟨⟨false, hf false⟩, ⟨true, hf true⟩⟩
  · rw [if_neg h, if_neg h]; exact ⟨⟨true, hf true⟩, ⟨false, hf false⟩⟩
theorem ckZ_b (b : Bool) : ckZ (oB b) (some (oB b)) = some (oB b) := by cases b <;> rfl
theorem cmp_j (c v : Int32) : ∃ b, f_X8_compares_j144 c v = some (oB b) := by
  unfold f_X8_compares_j144
  rw [lt_e]
  split
  · rw [jn_e]; exact (oB_ex f_X8_compares_j196 (fun b => ckZ_b b)).1
  · split
    · rw [jn_e]; exact (oB_ex f_X8_compares_j209 (fun b => ckZ_b b)).2
    · rw [jn_e]; exact (oB_ex f_X8_compares_j222 (fun b => ckZ_b b)).1
