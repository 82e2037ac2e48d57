/-! ===== bits of numbers ===== -/
theorem i32_tn {a b : Int32} (h : a.toBitVec.toNat = b.toBitVec.toNat) : a = b := Int32.toBitVec_inj.1 (BitVec.eq_of_toNat_eq h)
theorem nI_and {a b : Nat} (ha : a < 2 ^ 32) (hb : b < 2 ^ 32) : nI a &&& nI b = nI (a &&& b) := by
  apply i32_tn
  rw [Int32.toBitVec_and, BitVec.toNat_and, pk_tn ha, pk_tn hb, pk_tn (Nat.lt_of_le_of_lt Nat.and_le_left ha)]
theorem nI_or {a b : Nat} (ha : a < 2 ^ 32) (hb : b < 2 ^ 32) : nI a ||| nI b = nI (a ||| b) := by
  apply i32_tn
  rw [Int32.toBitVec_or, BitVec.toNat_or, pk_tn ha, pk_tn hb, pk_tn (Nat.or_lt_two_pow ha hb)]
theorem nI_xor {a b : Nat} (ha : a < 2 ^ 32) (hb : b < 2 ^ 32) : nI a ^^^ nI b = nI (a ^^^ b) := by
  apply i32_tn
  rw [Int32.toBitVec_xor, BitVec.toNat_xor, pk_tn ha, pk_tn hb, pk_tn (Nat.xor_lt_two_pow ha hb)]
theorem bc_e {m : Nat} (hm : m < 65536) : f_J6_bitCount_0f7a4 (nI m) = some (nI (pcN m 16)) := by
  have hb := bc_pc (m / 256) (by omega) (m % 256) (by omega)
  rw [show 256 * (m / 256) + m % 256 = m by omega] at hb
  rw [← hb]
  unfold f_J6_bitCount_0f7a4 bcN
  have s1 : ((nI m).toUInt32 >>> ((1 : Int32).toUInt32 &&& Int32.toUInt32 31)).toInt32 = nI (m / 2 ^ 1) := pk_ushrN (by omega) 1 1 rfl
  have a1 : m / 2 ^ 1 &&& 1431655765 ≤ m / 2 ^ 1 := Nat.and_le_left
  have e1 : nI (m / 2 ^ 1) &&& (1431655765 : Int32) = nI (m / 2 ^ 1 &&& 1431655765) := nI_and (b := 1431655765) (by omega) (by omega)
  simp only [lt_e, s1, e1, pk_sub (show m / 2 ^ 1 &&& 1431655765 ≤ m by omega)]
  show _ = some (nI (((fun x1 => _) (m - (m / 2 &&& 1431655765)))))
  rw [show m / 2 ^ 1 = m / 2 from rfl]
  generalize hx1 : m - (m / 2 &&& 1431655765) = x1
  have l1 : x1 < 65536 := by omega
  have s2 : ((nI x1).toUInt32 >>> ((2 : Int32).toUInt32 &&& Int32.toUInt32 31)).toInt32 = nI (x1 / 2 ^ 2) := pk_ushrN (by omega) 2 2 rfl
  have a2 : x1 &&& 858993459 ≤ x1 := Nat.and_le_left
  have a3 : x1 / 2 ^ 2 &&& 858993459 ≤ x1 / 2 ^ 2 := Nat.and_le_left
  have e2 : nI x1 &&& (858993459 : Int32) = nI (x1 &&& 858993459) := nI_and (b := 858993459) (by omega) (by omega)
  have e3 : nI (x1 / 2 ^ 2) &&& (858993459 : Int32) = nI (x1 / 2 ^ 2 &&& 858993459) := nI_and (b := 858993459) (by omega) (by omega)
  simp only [s2, e2, e3, nI_add]
  rw [show x1 / 2 ^ 2 = x1 / 4 from rfl] at a3 ⊢
  generalize hx2 : (x1 &&& 858993459) + (x1 / 4 &&& 858993459) = x2
  have l2 : x2 < 131072 := by omega
  have s3 : ((nI x2).toUInt32 >>> ((4 : Int32).toUInt32 &&& Int32.toUInt32 31)).toInt32 = nI (x2 / 2 ^ 4) := pk_ushrN (by omega) 4 4 rfl
  have e4 : nI (x2 + x2 / 2 ^ 4) &&& (252645135 : Int32) = nI ((x2 + x2 / 2 ^ 4) &&& 252645135) := nI_and (b := 252645135) (by omega) (by omega)
  have a4 : (x2 + x2 / 2 ^ 4) &&& 252645135 ≤ x2 + x2 / 2 ^ 4 := Nat.and_le_left
  simp only [s3, nI_add, e4]
  rw [show x2 / 2 ^ 4 = x2 / 16 from rfl] at a4 ⊢
  generalize hx3 : (x2 + x2 / 16) &&& 252645135 = x3
  have l3 : x3 < 262144 := by omega
  have s4 : ((nI x3).toUInt32 >>> ((8 : Int32).toUInt32 &&& Int32.toUInt32 31)).toInt32 = nI (x3 / 2 ^ 8) := pk_ushrN (by omega) 8 8 rfl
  simp only [s4, nI_add]
  rw [show x3 / 2 ^ 8 = x3 / 256 from rfl]
  generalize hx4 : x3 + x3 / 256 = x4
  have l4 : x4 < 524288 := by omega
  have s5 : ((nI x4).toUInt32 >>> ((16 : Int32).toUInt32 &&& Int32.toUInt32 31)).toInt32 = nI (x4 / 2 ^ 16) := pk_ushrN (by omega) 16 16 rfl
  have e5 : nI (x4 + x4 / 2 ^ 16) &&& (63 : Int32) = nI ((x4 + x4 / 2 ^ 16) &&& 63) := nI_and (b := 63) (by omega) (by omega)
  simp only [s5, nI_add, e5]
theorem pc_st {m P : Nat} : ∀ k, P ≤ k → (∀ j, P ≤ j → m.testBit j = false) → pcN m k = pcN m P
  | 0, h, _ => by rw [show P = 0 by omega]
  | k + 1, h, hm => by
    by_cases e : P = k + 1
    · rw [e]
    · show pcN m k + (if m.testBit k then 1 else 0) = _
      rw [pc_st k (by omega) hm, hm k (by omega)]
      rfl
