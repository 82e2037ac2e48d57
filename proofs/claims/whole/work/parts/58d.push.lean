/-! ===== steps that leave one truth ===== -/
def Push (ev : Int32 → Bool) (s : List Int32) (v : Bool) : Prop := ∀ rest st, runP ev (s ++ rest) st = runP ev rest (v :: st)
theorem push_cmp {ev : Int32 → Bool} {c : Int32} (h : c &&& 3 = 3) : Push ev [c] (ev c) := fun rest st => by
  show runP ev (c :: rest) st = _
  have e : runP ev (c :: rest) st = (if c &&& 3 = 0 then (match st with | b :: l => runP ev rest ((!b) :: l) | [] => none) else if c &&& 3 = 1 then (match st with | b :: d :: l => runP ev rest ((d && b) :: l) | _ => none) else if c &&& 3 = 2 then (match st with | b :: d :: l => runP ev rest ((d || b) :: l) | _ => none) else runP ev rest (ev c :: st)) := by
    cases st with
    | nil => rfl
    | cons b l => cases l <;> rfl
  rw [e, h, if_neg (by decide), if_neg (by decide), if_neg (by decide)]
theorem push_not {ev : Int32 → Bool} {s : List Int32} {v : Bool} (h : Push ev s v) : Push ev (s ++ [0]) (!v) := fun rest st => by
  rw [List.append_assoc, h]
  show runP ev (0 :: rest) (v :: st) = _
  rw [runP.eq_2, if_pos (by decide)]
theorem push_and {ev : Int32 → Bool} {s s' : List Int32} {v v' : Bool} (h : Push ev s v) (h' : Push ev s' v') : Push ev (s ++ s' ++ [1]) (v && v') := fun rest st => by
  rw [List.append_assoc, List.append_assoc, h, h']
  show runP ev (1 :: rest) (v' :: v :: st) = _
  rw [runP.eq_2, if_neg (by decide), if_pos (by decide)]
theorem push_or {ev : Int32 → Bool} {s s' : List Int32} {v v' : Bool} (h : Push ev s v) (h' : Push ev s' v') : Push ev (s ++ s' ++ [2]) (v || v') := fun rest st => by
  rw [List.append_assoc, List.append_assoc, h, h']
  show runP ev (2 :: rest) (v' :: v :: st) = _
  rw [runP.eq_2, if_neg (by decide), if_neg (by decide), if_pos (by decide)]
theorem push_run {ev : Int32 → Bool} {s : List Int32} {v : Bool} (h : Push ev s v) : runP ev s [] = some [v] := by
  have := h [] []
  rw [List.append_nil] at this
  rw [this]
  rfl
/-- a chain of parts -/
theorem push_loop {ev : Int32 → Bool} {t : Nat → Int32} {L : Nat} {op code : Int32} {g : Nat → Nat × Option (List Int32)} (f : Bool → Bool → Bool) (hg : ∀ p q s, g p = (q, some s) → ∃ v, Push ev s v) (hf : ∀ s s' v v', Push ev s v → Push ev s' v' → Push ev (s ++ s' ++ [code]) (f v v')) : ∀ k p acc v q s, Push ev acc v → sLoop t L op code g k p acc = (q, some s) → ∃ w, Push ev s w := by
  intro k
  induction k with
  | zero =>
    intro p acc v q s ha h
    unfold sLoop at h
    obtain ⟨-, h2⟩ := Prod.mk.inj h
    exact ⟨v, Option.some.inj h2 ▸ ha⟩
  | succ k ih =>
    intro p acc v q s ha h
    unfold sLoop at h
    by_cases e : tx t L p = op
    · rw [if_pos e] at h
      match hgp : g (p + 1) with
      | (q1, none) => rw [hgp] at h; unfold sThen at h; exact absurd (Prod.mk.inj h).2 (by simp)
      | (q1, some s1) =>
        rw [hgp] at h
        obtain ⟨v1, hv1⟩ := hg _ _ _ hgp
        exact ih q1 _ _ q s (hf _ _ _ _ ha hv1) h
    · rw [if_neg e] at h
      obtain ⟨-, h2⟩ := Prod.mk.inj h
      exact ⟨v, Option.some.inj h2 ▸ ha⟩
