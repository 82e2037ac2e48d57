theorem no_pn {p q : Nat} {s : List Int32} (h : (p, (none : Option (List Int32))) = (q, some s)) : False := by
  cases h
theorem or3 (x : Int32) : ((3 : Int32) ||| x) &&& 3 = 3 := by
  apply Int32.toBitVec_inj.1
  apply BitVec.eq_of_getLsbD_eq
  intro i hi
  rw [Int32.toBitVec_and, Int32.toBitVec_or, BitVec.getLsbD_and, BitVec.getLsbD_or]
  cases (3 : Int32).toBitVec.getLsbD i <;> cases x.toBitVec.getLsbD i <;> rfl
theorem cmp2_push {ev : Int32 → Bool} {t : Nat → Int32} {L : Nat} {f w : Int32} {p q : Nat} {s : List Int32} (h : sCmp2 t L f w p = (q, some s)) : ∃ v, Push ev s v := by
  unfold sCmp2 at h
  by_cases h1 : sRel (tx t L p) = -1
  · rw [if_pos h1] at h; exact (no_pn h).elim
  rw [if_neg h1] at h
  by_cases h2 : 48 ≤ (tx t L (p + 1)).toInt ∧ (tx t L (p + 1)).toInt ≤ 57
  · rw [if_pos h2] at h
    have e := Option.some.inj (Prod.mk.inj h).2
    rw [← e]
    refine ⟨_, push_cmp ?_⟩
    rw [Int32.or_assoc, Int32.or_assoc, Int32.or_assoc]
    exact or3 _
  · rw [if_neg h2] at h; exact (no_pn h).elim
theorem cmp_push {ev : Int32 → Bool} {t : Nat → Int32} {L p q : Nat} {s : List Int32} (h : sCmp t L p = (q, some s)) : ∃ v, Push ev s v := by
  unfold sCmp at h
  by_cases h1 : sFact (tx t L p) = -1
  · rw [if_pos h1] at h; exact (no_pn h).elim
  rw [if_neg h1] at h
  by_cases h2 : sFact (tx t L p) = 4
  · rw [if_pos h2] at h; exact cmp2_push h
  rw [if_neg h2] at h
  by_cases h3 : 48 ≤ (tx t L (p + 1)).toInt ∧ (tx t L (p + 1)).toInt ≤ 57
  · rw [if_pos h3] at h; exact cmp2_push h
  · rw [if_neg h3] at h; exact (no_pn h).elim
theorem then_some {x : Nat × Option (List Int32)} {f : Nat → List Int32 → Nat × Option (List Int32)} {q : Nat} {s : List Int32} (h : sThen x f = (q, some s)) : ∃ q1 s1, x = (q1, some s1) ∧ f q1 s1 = (q, some s) := by
  obtain ⟨q1, o⟩ := x
  cases o with
  | none => exact (no_pn h).elim
  | some s1 => exact ⟨q1, s1, rfl, h⟩
theorem seq_push {ev : Int32 → Bool} {t : Nat → Int32} {L : Nat} {op code : Int32} {g : Nat → Nat × Option (List Int32)} (f : Bool → Bool → Bool) (hg : ∀ p q s, g p = (q, some s) → ∃ v, Push ev s v) (hf : ∀ s s' v v', Push ev s v → Push ev s' v' → Push ev (s ++ s' ++ [code]) (f v v')) {p q : Nat} {s : List Int32} (h : sSeq t L op code g p = (q, some s)) : ∃ w, Push ev s w := by
  unfold sSeq at h
  obtain ⟨q1, s1, h1, h2⟩ := then_some h
  obtain ⟨v, hv⟩ := hg _ _ _ h1
  exact push_loop f hg hf _ _ _ _ _ _ hv h2
theorem sT_push {ev : Int32 → Bool} {t : Nat → Int32} {L : Nat} : ∀ n kd d p q s, sT t L n kd d p = (q, some s) → ∃ v, Push ev s v := by
  intro n
  induction n with
  | zero => intro kd d p q s h; unfold sT at h; exact (no_pn h).elim
  | succ n ih =>
    intro kd d p q s h
    match kd, h with
    | 0, h =>
      unfold sT at h
      exact seq_push (fun a b => a || b) (fun p q s => ih 1 d p q s) (fun _ _ _ _ => push_or) h
    | 1, h =>
      unfold sT at h
      exact seq_push (fun a b => a && b) (fun p q s => ih 2 d p q s) (fun _ _ _ _ => push_and) h
    | kd + 2, h =>
      unfold sT at h
      by_cases h1 : tx t L p = 33
      · rw [if_pos h1] at h
        by_cases h2 : d < 4
        · rw [if_pos h2] at h
          obtain ⟨q1, s1, g1, g2⟩ := then_some h
          obtain ⟨v, hv⟩ := ih _ _ _ _ _ g1
          have e := Option.some.inj (Prod.mk.inj g2).2
          rw [← e]
          exact ⟨_, push_not hv⟩
        · rw [if_neg h2] at h; exact (no_pn h).elim
      rw [if_neg h1] at h
      by_cases h3 : tx t L p = 40
      · rw [if_pos h3] at h
        by_cases h2 : d < 4
        · rw [if_pos h2] at h
          obtain ⟨q1, s1, g1, g2⟩ := then_some h
          by_cases h4 : tx t L q1 = 41
          · rw [if_pos h4] at g2
            have e := Option.some.inj (Prod.mk.inj g2).2
            rw [← e]
            exact ih _ _ _ _ _ g1
          · rw [if_neg h4] at g2; exact (no_pn g2).elim
        · rw [if_neg h2] at h; exact (no_pn h).elim
      rw [if_neg h3] at h
      exact cmp_push h
