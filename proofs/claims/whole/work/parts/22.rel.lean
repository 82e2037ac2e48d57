/-! ===== the relation between the class's heap and the model's ===== -/
def bd (x : Int32) (lo hi : Int) : Prop := lo ≤ x.toInt ∧ x.toInt ≤ hi
/-- what plant, pipes and pumps were told -/
def RP (r1 c2 c3 c4 c5 c6 c7 c8 c9 c10 c11 c12 : Nat → Int32) (m20 m21 m22 : Int32) (m88 m89 m90 m91 m92 m93 m94 m95 m96 m97 m98 : Nat → Int32) : Prop :=
  (r1 0 = m20 ∧ r1 6 = m21 ∧ r1 11 = m22) ∧ (bd (r1 0) 0 5 ∧ bd (r1 6) 0 12 ∧ bd (r1 11) 0 8) ∧
  (c2 = m88 ∧ c3 = m89 ∧ c4 = m90 ∧ c5 = m91 ∧ c6 = m98 ∧ c7 = m92 ∧ c8 = m93 ∧ c9 = m94 ∧ c10 = m95 ∧ c11 = m96 ∧ c12 = m97) ∧
  (∀ k : Nat, (k : Int) < (r1 0).toInt → bd (c2 k) 1 99) ∧ (∀ k, bd (c3 k) 0 3) ∧ (∀ k, bd (c4 k) 0 9) ∧ (∀ k, bd (c5 k) 0 500) ∧ (∀ k, bd (c6 k) 0 999) ∧
  (∀ k : Nat, (k : Int) < (r1 6).toInt → bd (c7 k) 0 ((r1 0).toInt - 1) ∧ bd (c8 k) 0 ((r1 0).toInt - 1) ∧ c7 k ≠ c8 k ∧ bd (c9 k) 1 9) ∧
  (∀ k : Nat, (k : Int) < (r1 11).toInt → bd (c10 k) 0 ((r1 0).toInt - 1)) ∧ (∀ k, bd (c11 k) 0 9) ∧ (∀ k, bd (c12 k) 0 99999)
/-- a mask of the class and a row of booleans of the model; nothing past the count -/
def RB (nb : Nat) (mask cnt : Int32) (f : Nat → Int32) : Prop := ∃ m : Nat, mask = nI m ∧ m < 2 ^ nb ∧ (∀ k, f k = if m.testBit k then 1 else 0) ∧ ∀ k : Nat, cnt.toInt ≤ k → m.testBit k = false
def sm3 (f : Nat → Int32) (g : Nat) : Nat → Int
  | 0 => 0
  | n + 1 => sm3 f g n + (f (3 * n + g)).toInt
/-- what pumps without a limit took, in the class's own sum (it wraps) -/
def ou3 (lim taken : Nat → Int32) (g : Nat) : Nat → Int32
  | 0 => 0
  | n + 1 => ou3 lim taken g n + (if (lim n).toInt = 0 then taken (3 * n + g) else 0)
/-- where the gas is -/
def RG (n : Nat) (tick m23 : Int32) (c14 c15 c16 c17 m99 m100 m101 m102 m103 lim : Nat → Int32) (pumps : Int32) : Prop :=
  (tick = m23 ∧ bd tick 0 5000) ∧ (c14 = m99 ∧ c15 = m100 ∧ c16 = m101 ∧ c17 = m102) ∧
  (∀ k, 0 ≤ (c14 k).toInt) ∧ (∀ k, 0 ≤ (c15 k).toInt) ∧ (∀ k, 0 ≤ (c16 k).toInt) ∧
  (∀ g, g < 3 → sm3 c14 g 5 + sm3 c15 g 5 + sm3 c16 g 8 = (c17 g).toInt ∧ (c17 g).toInt ≤ 99999 * n + 4995 * tick.toInt) ∧
  (∀ k, k < 8 → 0 < (lim k).toInt → (c16 (3 * k)).toInt + (c16 (3 * k + 1)).toInt + (c16 (3 * k + 2)).toInt ≤ (lim k).toInt) ∧
  (∀ k : Nat, pumps.toInt ≤ (k : Int) → c16 (3 * k) = 0 ∧ c16 (3 * k + 1) = 0 ∧ c16 (3 * k + 2) = 0) ∧
  (∀ g, g < 3 → m103 g = ou3 lim c16 g pumps.toInt.toNat)
