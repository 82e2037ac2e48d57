/-! ===== a plan: rooms that are leaked into ===== -/
def lkN (pl : Nat → Nat → Nat) : Nat → Nat
  | 0 => 0
  | q + 1 => lkN pl q ||| (if 0 < pl 6 (3 * q) then rc pl q else 0)
theorem lkN_tb {pl : Nat → Nat → Nat} {r : Nat} : ∀ k, (lkN pl k).testBit r = true ↔ ∃ q, q < k ∧ 0 < pl 6 (3 * q) ∧ (rc pl q).testBit r = true
  | 0 => by
    show (Nat.testBit 0 r = true) ↔ _
    rw [Nat.zero_testBit]
    exact ⟨fun h => (by cases h), fun ⟨q, h, _⟩ => absurd h (by omega)⟩
  | k + 1 => by
    show ((lkN pl k ||| (if 0 < pl 6 (3 * k) then rc pl k else 0)).testBit r = true) ↔ _
    rw [or_b, lkN_tb k]
    constructor
    · rintro (⟨q, h1, h2, h3⟩ | h)
      · exact ⟨q, by omega, h2, h3⟩
      · by_cases e : 0 < pl 6 (3 * k)
        · rw [if_pos e] at h; exact ⟨k, by omega, e, h⟩
        · rw [if_neg e, Nat.zero_testBit] at h; cases h
    · rintro ⟨q, h1, h2, h3⟩
      by_cases e : q = k
      · subst e; right; rw [if_pos h2]; exact h3
      · exact Or.inl ⟨q, by omega, h2, h3⟩
theorem lkN_lt {pl : Nat → Nat → Nat} (hB : PB pl) : ∀ k, k ≤ 5 → lkN pl k < 32
  | 0, _ => by show 0 < 32; omega
  | k + 1, hk => by
    have h1 := lkN_lt hB k (by omega)
    have h2 := rc_lt hB (show k < 5 by omega)
    show (lkN pl k ||| (if 0 < pl 6 (3 * k) then rc pl k else 0)) < 2 ^ 5
    refine Nat.or_lt_two_pow (by omega) ?_
    split <;> omega
theorem c_leaky {pl : Nat → Nat → Nat} (hB : PB pl) {σ : Hp} (hC : PC σ pl) (h56 : ∀ r, r < 5 → σ.1 56 r = nI (rc pl r)) : f_X7_leakyRooms σ = some (nI (lkN pl (pl 1 0))) := by
  have hn := hB.1.1
  unfold f_X7_leakyRooms
  refine lp_d (Q := fun y => y = some (nI (lkN pl (pl 1 0)))) (pl 1 0) (fun q => (nI (lkN pl q), nI q)) ?_ ?_ (by omega)
  · intro q hq K
    have e1 : σ.1 1 0 = nI (pl 1 0) := hC.1.1
    have e6 : σ.1 6 (3 * q) = nI (pl 6 (3 * q)) := hC.2.2.2.2.2.1 (3 * q)
    have b6 := hB.2.2.2.2.2.1 (3 * q)
    have hl := lkN_lt hB q (by omega)
    have hr := rc_lt hB (show q < 5 by omega)
    have hK : ∀ t, t < 32 → f_X7_leakyRooms_j40 (nI (lkN pl q), nI q) K (nI t) = K (nI (lkN pl q ||| t), nI (q + 1)) := fun t ht => by
      unfold f_X7_leakyRooms_j40
      dsimp only
      rw [lt_e, lt_e, nI_1, nI_or (by omega) (by omega)]
    have hs : lkN pl (q + 1) = lkN pl q ||| (if 0 < pl 6 (3 * q) then rc pl q else 0) := rfl
    unfold f_X7_leakyRooms_l4
    dsimp only
    rw [e1, le_f hq (by omega), show (3 : Int32) = nI 3 from rfl, pk_mul, Nat.mul_comm q 3, ldI_n (by omega) (by omega), e6, jn_e, hs]
    by_cases c : 0 < pl 6 (3 * q)
    · rw [if_pos c, show ∀ y z : Option Int32, (if nI (pl 6 (3 * q)) ≤ (0 : Int32) then y else z) = z from fun y z => le_f (b := 0) c (by omega), ldI_n (by omega) (by omega), h56 q (by omega), hK _ hr]
    · rw [if_neg c, show ∀ y z : Option Int32, (if nI (pl 6 (3 * q)) ≤ (0 : Int32) then y else z) = y from fun y z => le_t (b := 0) (by omega) (by omega)]
      exact hK 0 (by omega)
  · intro K
    have e1 : σ.1 1 0 = nI (pl 1 0) := hC.1.1
    unfold f_X7_leakyRooms_l4
    dsimp only
    rw [e1, le_t (Nat.le_refl _) (by omega)]
def liF (pl : Nat → Nat → Nat) (r : Nat) : Nat → Bool
  | 0 => false
  | q + 1 => liF pl r q || ((rc pl r).testBit q && decide (0 < pl 6 (3 * q)))
theorem liF_iff {pl : Nat → Nat → Nat} {r : Nat} : ∀ k, liF pl r k = true ↔ ∃ q, q < k ∧ 0 < pl 6 (3 * q) ∧ (rc pl r).testBit q = true
  | 0 => ⟨fun h => (by cases h), fun ⟨q, h, _⟩ => absurd h (by omega)⟩
  | k + 1 => by
    show ((liF pl r k || ((rc pl r).testBit k && decide (0 < pl 6 (3 * k)))) = true) ↔ _
    rw [Bool.or_eq_true, Bool.and_eq_true, decide_eq_true_iff, liF_iff k]
    constructor
    · rintro (⟨q, h1, h2, h3⟩ | ⟨h1, h2⟩)
      · exact ⟨q, by omega, h2, h3⟩
      · exact ⟨k, by omega, h2, h1⟩
    · rintro ⟨q, h1, h2, h3⟩
      by_cases e : q = k
      · subst e; exact Or.inr ⟨h3, h2⟩
      · exact Or.inl ⟨q, by omega, h2, h3⟩
theorem liF_lk {pl : Nat → Nat → Nat} (hB : PB pl) {r k : Nat} : liF pl r k = (lkN pl k).testBit r := by
  have h : liF pl r k = true ↔ (lkN pl k).testBit r = true := by
    rw [liF_iff, lkN_tb]
    constructor
    · rintro ⟨q, h1, h2, h3⟩; exact ⟨q, h1, h2, rc_sym hB h3⟩
    · rintro ⟨q, h1, h2, h3⟩; exact ⟨q, h1, h2, rc_sym hB h3⟩
  cases e1 : liF pl r k <;> cases e2 : (lkN pl k).testBit r
  · rfl
  · exact absurd (h.2 e2) (by rw [e1]; decide)
  · exact absurd (h.1 e1) (by rw [e2]; decide)
  · rfl
theorem m_leaked {pl : Nat → Nat → Nat} (hB : PB pl) {τ : Hp} (hM : PM τ pl) (h129 : ∀ r, r < pl 1 0 → τ.1 129 r = nI (lab pl 5 r)) {r : Nat} (hr : r < pl 1 0) : f_X12_isLeakedInto (nI r) τ = some (oB ((lkN pl (pl 1 0)).testBit r)) := by
  have hn := hB.1.1
  have hlab := LA_lab hB 5
  rw [← liF_lk hB]
  unfold f_X12_isLeakedInto
  refine lp_d (Q := fun y => y = some (oB (liF pl r (pl 1 0)))) (pl 1 0) (fun q => (oB (liF pl r q), nI q)) ?_ ?_ (by omega)
  · intro q hq K
    have e20 : τ.1 86 20 = nI (pl 1 0) := hM.1.1
    have e98 : τ.1 98 (3 * q) = nI (pl 6 (3 * q)) := hM.2.2.2.2.2.1 (3 * q)
    have b6 := hB.2.2.2.2.2.1 (3 * q)
    have hli := lab_iff hB hr hq
    have l1 := lab_lt hB hlab hr
    have l2 := lab_lt hB hlab hq
    have hK : ∀ b : Bool, f_X12_isLeakedInto_j47 (oB (liF pl r q), nI q) K (oB b) = K (oB b, nI (q + 1)) := fun b => by
      unfold f_X12_isLeakedInto_j47
      dsimp only
      rw [lt_e, nI_1]
    have hs : liF pl r (q + 1) = (liF pl r q || ((rc pl r).testBit q && decide (0 < pl 6 (3 * q)))) := rfl
    unfold f_X12_isLeakedInto_l4 f_X12_isLeakedInto_j42 f_X12_isLeakedInto_j46
    dsimp only
    rw [e20, le_f hq (by omega), jn_e, jn_e, oB_0, ldI_n (by omega) (by omega), h129 q hq, ldI_n (by omega) (by omega), h129 r hr, jn_e, show (3 : Int32) = nI 3 from rfl, pk_mul, ldI_n (by omega) (by omega), e98, hs]
    cases liF pl r q
    · rw [if_neg (by decide), Bool.false_or]
      by_cases c1 : (rc pl r).testBit q = true
      · rw [if_pos (by rw [hli.2 c1]), c1, Bool.true_and]
        by_cases c2 : 0 < pl 6 (3 * q)
        · rw [show ∀ y z : Option Int32, (if nI (pl 6 (3 * q)) ≤ (0 : Int32) then y else z) = z from fun y z => le_f (b := 0) c2 (by omega), decide_eq_true c2]
          exact hK true
        · rw [show ∀ y z : Option Int32, (if nI (pl 6 (3 * q)) ≤ (0 : Int32) then y else z) = y from fun y z => le_t (b := 0) (by omega) (by omega), decide_eq_false c2]
          exact hK false
      · rw [if_neg (fun h => c1 (hli.1 ((nI_eq (by omega) (by omega)).1 h))), Bool.eq_false_iff.2 c1]
        exact hK false
    · rw [if_pos rfl]
      exact hK true
  · intro K
    have e20 : τ.1 86 20 = nI (pl 1 0) := hM.1.1
    unfold f_X12_isLeakedInto_l4
    dsimp only
    rw [e20, le_t (Nat.le_refl _) (by omega), ckZ_b]
