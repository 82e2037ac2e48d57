/-! ===== bits of masks ===== -/
theorem sh31 : ∀ p, p < 32 → nI p &&& 31 = nI p ∧ ((nI p).toBitVec.smod 32).toNat = p := by decide +kernel
theorem bitC {m p : Nat} (hm : m < 2147483648) (hp : p < 31) : ((nI m >>> (nI p &&& 31)) &&& (1 : Int32)) = if m.testBit p then 1 else 0 := by
  have h := sh31 p (by omega)
  rw [h.1, pk_shrN (by omega) (nI p) p h.2, pk_andN (m := (1 : Int32)) (by have := Nat.div_le_self m (2 ^ p); omega) 1 rfl, Nat.testBit_eq_decide_div_mod_eq]
  have h2 : m / 2 ^ p % 2 ^ 1 < 2 := Nat.mod_lt _ (by omega)
  by_cases e : m / 2 ^ p % 2 = 1
  · rw [decide_eq_true e, if_pos rfl, show m / 2 ^ p % 2 ^ 1 = 1 from e]
    rfl
  · rw [decide_eq_false e, if_neg (by decide), show m / 2 ^ p % 2 ^ 1 = 0 by omega]
    rfl
theorem bit1 {α : Type} {m p : Nat} (hm : m < 2147483648) (hp : p < 31) (x y : α) : (if ((nI m >>> (nI p &&& 31)) &&& (1 : Int32)) = (1 : Int32) then x else y) = if m.testBit p then x else y := by
  rw [bitC hm hp]
  cases m.testBit p <;> rfl
theorem bit1' {α : Type} {m p : Nat} (hm : m < 2147483648) (hp : p < 31) (x y : α) : (if ((nI m >>> (nI p &&& 31)) &&& nI 1) = nI 1 then x else y) = if m.testBit p then x else y := bit1 hm hp x y
theorem bit0' {α : Type} {m p : Nat} (hm : m < 2147483648) (hp : p < 31) (x y : α) : (if ((nI m >>> (nI p &&& 31)) &&& nI 1) = nI 0 then x else y) = if m.testBit p then y else x := by
  rw [show ((nI m >>> (nI p &&& 31)) &&& nI 1) = if m.testBit p then 1 else 0 from bitC hm hp]
  cases m.testBit p <;> rfl
theorem bN_0 {α : Type} (m p : Nat) (x y : α) : (if bN m p = 0 then x else y) = if m.testBit p then y else x := by
  unfold bN
  cases m.testBit p <;> rfl
theorem bN_0' {α : Type} (m p : Nat) (x y : α) : (if bN m p = nI 0 then x else y) = if m.testBit p then y else x := bN_0 m p x y
theorem bN_c (m p : Nat) : bN m p = if m.testBit p then 1 else 0 := rfl
theorem clrC : ∀ m, m < 256 → ∀ p, p < 8 → m.testBit p = true → (nI m &&& (((1 : Int32) <<< (nI p &&& 31)) ^^^ (-1 : Int32))) = nI (m - 2 ^ p) ∧ ∀ k, k < 8 → (m - 2 ^ p).testBit k = (m.testBit k && !decide (k = p)) := by decide +kernel
theorem tb_big {m b k : Nat} (hm : m < 2 ^ b) (hk : b ≤ k) : m.testBit k = false := Nat.testBit_lt_two_pow (Nat.lt_of_lt_of_le hm (Nat.pow_le_pow_right (by omega) hk))
