/-! ===== the class's steps, run ===== -/
def runP (ev : Int32 → Bool) : List Int32 → List Bool → Option (List Bool)
  | [], st => some st
  | c :: cs, st =>
    if c &&& 3 = 0 then (match st with | b :: l => runP ev cs ((!b) :: l) | [] => none)
    else if c &&& 3 = 1 then (match st with | b :: d :: l => runP ev cs ((d && b) :: l) | _ => none)
    else if c &&& 3 = 2 then (match st with | b :: d :: l => runP ev cs ((d || b) :: l) | _ => none)
    else runP ev cs (ev c :: st)
/-- one step -/
theorem run_step {ev : Int32 → Bool} {c : Int32} {cs : List Int32} {st : List Bool} {x : Int64} {B : List Bool} (hR : Rep st x) (hl : st.length < 60) (hr : runP ev (c :: cs) st = some B) (cmp : Option Int32) (hc : ¬ (c &&& 3 = 0) → ¬ (c &&& 3 = 1) → ¬ (c &&& 3 = 2) → cmp = some (oB (ev c))) (kk : Int64 → Option Int32) :
    ∃ st' x', Rep st' x' ∧ st'.length ≤ st.length + 1 ∧ runP ev cs st' = some B ∧ (if (c &&& (3 : Int32)) = (0 : Int32) then lt (x ^^^ (1 : Int64)) fun x9 => kk x9 else if (c &&& (3 : Int32)) = (1 : Int32) then lt ((x >>> ((1 : Int32).toInt64 &&& 63)) &&& (x ||| (-2 : Int64))) fun x10 => kk x10 else if (c &&& (3 : Int32)) = (2 : Int32) then lt ((x >>> ((1 : Int32).toInt64 &&& 63)) ||| (x &&& (1 : Int64))) fun x11 => kk x11 else cr cmp fun v12 => if v12 = 0 then (lt ((x <<< ((1 : Int32).toInt64 &&& 63)) ||| (0 : Int32).toInt64) fun x14 => kk x14) else (lt ((x <<< ((1 : Int32).toInt64 &&& 63)) ||| (1 : Int32).toInt64) fun x14 => kk x14)) = kk x' := by
  unfold runP at hr
  by_cases h0 : c &&& 3 = 0
  · rw [if_pos h0] at hr
    match st, hr with
    | b :: l, hr => exact ⟨_, _, rep_not hR, Nat.le_succ _, hr, by rw [if_pos h0, lt_e]⟩
  rw [if_neg h0] at hr
  by_cases h1 : c &&& 3 = 1
  · rw [if_pos h1] at hr
    match st, hr with
    | b :: d :: l, hr => exact ⟨_, _, rep_and hR, by simp only [List.length_cons]; omega, hr, by rw [if_neg h0, if_pos h1, lt_e]⟩
  rw [if_neg h1] at hr
  by_cases h2 : c &&& 3 = 2
  · rw [if_pos h2] at hr
    match st, hr with
    | b :: d :: l, hr => exact ⟨_, _, rep_or hR, by simp only [List.length_cons]; omega, hr, by rw [if_neg h0, if_neg h1, if_pos h2, lt_e]⟩
  rw [if_neg h2] at hr
  refine ⟨_, _, rep_push (ev c) hR hl, by rw [List.length_cons]; omega, hr, ?_⟩
  rw [if_neg h0, if_neg h1, if_neg h2, hc h0 h1 h2, cr_s, lt_e, lt_e, oB_0]
  cases ev c <;> rfl
theorem rep_top {b : Bool} {l : List Bool} {x : Int64} (h : Rep (b :: l) x) : f_X8_holds_j122 x = some (oB b) := by
  have h0 := h.2 0 (by rw [List.length_cons]; omega)
  have e : x &&& (1 : Int64) = (oB b).toInt64 := by
    apply Int64.toBitVec_inj.1
    apply BitVec.eq_of_getLsbD_eq
    intro i hi
    rw [Int64.toBitVec_and, BitVec.getLsbD_and, lb_1 i hi]
    by_cases e : i = 0
    · subst e
      rw [h0]
      cases b
      · rfl
      · rfl
    · rw [decide_eq_false e, Bool.and_false]
      cases b
      · exact (lb_0 i hi).symm
      · have := lb_1 i hi; rw [decide_eq_false e] at this; exact this.symm
  unfold f_X8_holds_j122 f_X8_holds_j135
  rw [jn_e, e]
  cases b <;> rfl
