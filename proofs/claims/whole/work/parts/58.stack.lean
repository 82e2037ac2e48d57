/-! ===== a long as a stack of truths ===== -/
def Rep (l : List Bool) (x : Int64) : Prop := l.length ≤ 60 ∧ ∀ i, i < l.length → x.toBitVec.getLsbD i = l.getD i false
theorem lb_1 : ∀ i, i < 64 → (1 : Int64).toBitVec.getLsbD i = decide (i = 0) := by decide +kernel
theorem lb_m2 : ∀ i, i < 64 → (-2 : Int64).toBitVec.getLsbD i = !decide (i = 0) := by decide +kernel
theorem lb_0 : ∀ i, i < 64 → (0 : Int64).toBitVec.getLsbD i = false := by decide +kernel
theorem lb_sr (x : Int64) {i : Nat} (hi : i < 62) : (x >>> ((1 : Int32).toInt64 &&& 63)).toBitVec.getLsbD i = x.toBitVec.getLsbD (i + 1) := by
  rw [Int64.toBitVec_shiftRight, BitVec.sshiftRight_eq']
  have hn : (((1 : Int32).toInt64 &&& 63).toBitVec.smod 64).toNat = 1 := by decide
  rw [hn, BitVec.getLsbD_sshiftRight, decide_eq_false (show ¬ 64 ≤ i by omega), if_pos (by omega), Nat.add_comm 1 i]
  rfl
theorem lb_sl (x : Int64) {i : Nat} (hi : i < 64) : (x <<< ((1 : Int32).toInt64 &&& 63)).toBitVec.getLsbD i = (!decide (i = 0) && x.toBitVec.getLsbD (i - 1)) := by
  rw [Int64.toBitVec_shiftLeft, BitVec.shiftLeft_eq']
  have hn : (((1 : Int32).toInt64 &&& 63).toBitVec.smod 64).toNat = 1 := by decide
  rw [hn, BitVec.getLsbD_shiftLeft, decide_eq_true hi, Bool.true_and]
  congr 1
  congr 1
  exact decide_eq_decide.2 (by omega)
theorem rep_not {b : Bool} {l : List Bool} {x : Int64} (h : Rep (b :: l) x) : Rep ((!b) :: l) (x ^^^ (1 : Int64)) := by
  refine ⟨h.1, fun i hi => ?_⟩
  have h1 := h.1
  have h2 := h.2 i hi
  rw [List.length_cons] at hi h1
  rw [Int64.toBitVec_xor, BitVec.getLsbD_xor, h2, lb_1 i (by omega)]
  cases i with
  | zero => show xor b (decide (0 = 0)) = !b; cases b <;> rfl
  | succ i => show xor (l.getD i false) (decide (i + 1 = 0)) = l.getD i false; rw [decide_eq_false (by omega), Bool.xor_false]
theorem rep_and {b c : Bool} {l : List Bool} {x : Int64} (h : Rep (b :: c :: l) x) : Rep ((c && b) :: l) ((x >>> ((1 : Int32).toInt64 &&& 63)) &&& (x ||| (-2 : Int64))) := by
  have h1 := h.1
  rw [List.length_cons, List.length_cons] at h1
  refine ⟨by rw [List.length_cons]; omega, fun i hi => ?_⟩
  rw [List.length_cons] at hi
  have h2 := h.2 (i + 1) (by rw [List.length_cons, List.length_cons]; omega)
  rw [Int64.toBitVec_and, Int64.toBitVec_or, BitVec.getLsbD_and, BitVec.getLsbD_or, lb_sr x (by omega), h2, lb_m2 i (by omega)]
  cases i with
  | zero =>
    rw [h.2 0 (by rw [List.length_cons]; omega)]
    show (c && (b || !decide (0 = 0))) = (c && b)
    cases b <;> cases c <;> rfl
  | succ i =>
    rw [decide_eq_false (show ¬ i + 1 = 0 by omega), Bool.not_false, Bool.or_true, Bool.and_true]
    rfl
theorem rep_or {b c : Bool} {l : List Bool} {x : Int64} (h : Rep (b :: c :: l) x) : Rep ((c || b) :: l) ((x >>> ((1 : Int32).toInt64 &&& 63)) ||| (x &&& (1 : Int64))) := by
  have h1 := h.1
  rw [List.length_cons, List.length_cons] at h1
  refine ⟨by rw [List.length_cons]; omega, fun i hi => ?_⟩
  rw [List.length_cons] at hi
  have h2 := h.2 (i + 1) (by rw [List.length_cons, List.length_cons]; omega)
  rw [Int64.toBitVec_or, Int64.toBitVec_and, BitVec.getLsbD_or, BitVec.getLsbD_and, lb_sr x (by omega), h2, lb_1 i (by omega)]
  cases i with
  | zero =>
    rw [h.2 0 (by rw [List.length_cons]; omega)]
    show (c || (b && decide (0 = 0))) = (c || b)
    cases b <;> cases c <;> rfl
  | succ i =>
    rw [decide_eq_false (show ¬ i + 1 = 0 by omega), Bool.and_false, Bool.or_false]
    rfl
theorem rep_push {l : List Bool} {x : Int64} (b : Bool) (h : Rep l x) (hl : l.length < 60) : Rep (b :: l) ((x <<< ((1 : Int32).toInt64 &&& 63)) ||| (oB b).toInt64) := by
  refine ⟨by rw [List.length_cons]; omega, fun i hi => ?_⟩
  rw [List.length_cons] at hi
  have ho : (oB b).toInt64.toBitVec.getLsbD i = (b && decide (i = 0)) := by
    cases b
    · exact lb_0 i (by omega)
    · exact lb_1 i (by omega)
  rw [Int64.toBitVec_or, BitVec.getLsbD_or, lb_sl x (by omega), ho]
  cases i with
  | zero => show (!decide (0 = 0) && _ || (b && decide (0 = 0))) = b; cases b <;> rfl
  | succ i =>
    rw [decide_eq_false (show ¬ i + 1 = 0 by omega), Bool.not_false, Bool.true_and, Bool.and_false, Bool.or_false]
    exact h.2 i (by omega)
theorem rep_0 : Rep [] (0 : Int64) := ⟨Nat.zero_le _, fun i hi => absurd hi (by show ¬ i < 0; omega)⟩
