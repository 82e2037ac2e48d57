/-! ===== the sums at rest, as a matrix ===== -/
def clF (M : Nat) (sp : Nat → Nat) : Nat → Bool
  | 0 => true
  | q + 1 => clF M sp q && !(M.testBit q && decide (0 < sp q))
theorem clF_iff {M : Nat} {sp : Nat → Nat} : ∀ k, clF M sp k = true ↔ ∀ q, q < k → M.testBit q = true → sp q = 0
  | 0 => ⟨fun _ q hq => absurd hq (by omega), fun _ => rfl⟩
  | k + 1 => by
    have ih := clF_iff (M := M) (sp := sp) k
    show (clF M sp k && !(M.testBit k && decide (0 < sp k))) = true ↔ _
    rw [Bool.and_eq_true, ih, Bool.not_eq_true', Bool.and_eq_false_iff]
    constructor
    · rintro ⟨h1, h2⟩ q hq hM
      by_cases e : q = k
      · subst e
        rcases h2 with h2 | h2
        · rw [hM] at h2; cases h2
        · have := of_decide_eq_false h2; omega
      · exact h1 q (by omega) hM
    · intro h
      refine ⟨fun q hq => h q (by omega), ?_⟩
      cases e : M.testBit k
      · exact Or.inl rfl
      · exact Or.inr (decide_eq_false (by have := h k (by omega) e; omega))
/-- a room that no pump reaches -/
def cld (pl : Nat → Nat → Nat) (sp : Nat → Nat) (r : Nat) : Bool := clF (rc pl r) sp 5
def pcI (a b : Nat) (w : Int) (i j : Nat) : Int := (if j = a then (if i = a then w else 0) - (if i = b then w else 0) else 0) + (if j = b then (if i = b then w else 0) - (if i = a then w else 0) else 0)
def mtx (pl : Nat → Nat → Nat) (sp : Nat → Nat) : Nat → Nat → Nat → Int
  | 0, i, j => if i = j then (if cld pl sp i = true then 1 else (sp i : Int)) else 0
  | p + 1, i, j => mtx pl sp p i j + (if opn pl p = true ∧ cld pl sp (pl 7 p) = false then pcI (pl 7 p) (pl 8 p) (pl 9 p) i j else 0)
def vM (pl : Nat → Nat → Nat) (sp lk : Nat → Nat) (i j : Nat) : Int := if j < 5 then mtx pl sp (pl 1 6) i j else if j = 5 then (if cld pl sp i = true then 0 else (lk i : Int)) else 0
theorem vM_5 (pl : Nat → Nat → Nat) (sp lk : Nat → Nat) (i : Nat) : vM pl sp lk i 5 = if cld pl sp i = true then 0 else (lk i : Int) := rfl
theorem vM_lt {pl : Nat → Nat → Nat} {sp lk : Nat → Nat} {i j : Nat} (hj : j < 5) : vM pl sp lk i j = mtx pl sp (pl 1 6) i j := if_pos hj
theorem pcI_off {a b i j : Nat} {w : Int} (hw : 0 ≤ w) (hab : a ≠ b) (hij : i ≠ j) : pcI a b w i j ≤ 0 := by
  unfold pcI
  by_cases h1 : j = a
  · rw [if_pos h1, if_neg (show ¬ j = b by omega), if_neg (show ¬ i = a by omega)]
    split <;> omega
  · rw [if_neg h1]
    by_cases h2 : j = b
    · rw [if_pos h2, if_neg (show ¬ i = b by omega)]
      split <;> omega
    · rw [if_neg h2]; omega
theorem pcI_ab {a b : Nat} {w : Int} (hab : a ≠ b) : pcI a b w a b = - w := by
  unfold pcI
  rw [if_neg (show ¬ b = a by omega), if_pos rfl, if_neg hab, if_pos rfl]
  omega
theorem pcI_sym {a b i j : Nat} {w : Int} (hab : a ≠ b) : pcI a b w i j = pcI a b w j i := by
  unfold pcI
  by_cases h1 : i = a <;> by_cases h2 : j = a <;> by_cases h3 : i = b <;> by_cases h4 : j = b <;> simp only [h1, h2, h3, h4, if_true, if_false, reduceIte, hab, hab.symm] <;> omega
theorem a5_pt {k : Nat} (hk : k < 5) (x : Int) : a5 (fun j => if j = k then x else 0) = x := by
  simp only [a5]
  rcases (by omega : k = 0 ∨ k = 1 ∨ k = 2 ∨ k = 3 ∨ k = 4) with rfl | rfl | rfl | rfl | rfl <;> simp only [reduceIte, Nat.reduceEqDiff] <;> omega
theorem a5_add (f g : Nat → Int) : a5 (fun j => f j + g j) = a5 f + a5 g := by
  simp only [a5]
  omega
theorem pcI_row {a b i : Nat} {w : Int} (ha : a < 5) (hb : b < 5) : a5 (pcI a b w i) = 0 := by
  have : a5 (pcI a b w i) = a5 (fun j => (if j = a then (if i = a then w else 0) - (if i = b then w else 0) else 0) + (if j = b then (if i = b then w else 0) - (if i = a then w else 0) else 0)) := rfl
  rw [this, a5_add (fun j => if j = a then (if i = a then w else 0) - (if i = b then w else 0) else 0), a5_pt ha, a5_pt hb]
  omega
theorem pcI_tr {a b : Nat} {w : Int} (ha : a < 5) (hb : b < 5) (hab : a ≠ b) : a5 (fun i => pcI a b w i i) = 2 * w := by
  have : a5 (fun i => pcI a b w i i) = a5 (fun i => (if i = a then w else 0) + (if i = b then w else 0)) := a5_c (fun i _ => by
    unfold pcI
    by_cases h1 : i = a
    · rw [if_pos h1, if_neg (show ¬ i = b by omega), if_pos h1, if_neg (show ¬ i = b by omega)]; omega
    · rw [if_neg h1]
      by_cases h2 : i = b
      · rw [if_pos h2, if_pos h2, if_neg h1]
        omega
      · rw [if_neg h2, if_neg h2, if_neg h1])
  rw [this, a5_add (fun i => if i = a then w else 0), a5_pt ha, a5_pt hb]
  omega
section MAT
variable {pl : Nat → Nat → Nat} {sp lk : Nat → Nat}
theorem mtx_s (p i j : Nat) : mtx pl sp (p + 1) i j = mtx pl sp p i j + (if opn pl p = true ∧ cld pl sp (pl 7 p) = false then pcI (pl 7 p) (pl 8 p) (pl 9 p) i j else 0) := rfl
theorem mtx_off (hB : PB pl) {i j : Nat} (hij : i ≠ j) : ∀ p, p ≤ pl 1 6 → mtx pl sp p i j ≤ 0
  | 0, _ => by
    show (if i = j then _ else _) ≤ (0 : Int)
    rw [if_neg hij]; exact Int.le_refl _
  | p + 1, hp => by
    have ih := mtx_off hB hij p (by omega)
    obtain ⟨b1, b2, b3, b4, b5⟩ := hB.2.2.2.2.2.2.1 p (by omega)
    rw [mtx_s]
    have := pcI_off (w := (pl 9 p : Int)) (by omega) b3 hij
    split <;> omega
theorem mtx_sym (hB : PB pl) (i j : Nat) : ∀ p, p ≤ pl 1 6 → mtx pl sp p i j = mtx pl sp p j i
  | 0, _ => by
    show (if i = j then _ else _) = (if j = i then _ else _)
    by_cases h : i = j
    · rw [h]
    · rw [if_neg h, if_neg (fun e => h e.symm)]
  | p + 1, hp => by
    have ih := mtx_sym hB i j p (by omega)
    obtain ⟨b1, b2, b3, b4, b5⟩ := hB.2.2.2.2.2.2.1 p (by omega)
    rw [mtx_s, mtx_s, ih, pcI_sym b3]
theorem mtx_row (hB : PB pl) {i : Nat} (hi : i < 5) : ∀ p, p ≤ pl 1 6 → a5 (mtx pl sp p i) = if cld pl sp i = true then 1 else (sp i : Int)
  | 0, _ => by
    have : a5 (mtx pl sp 0 i) = a5 (fun j => if j = i then (if cld pl sp i = true then 1 else (sp i : Int)) else 0) := a5_c (fun j _ => by
      show (if i = j then _ else _) = (if j = i then _ else _)
      by_cases h : i = j
      · rw [if_pos h, if_pos h.symm]
      · rw [if_neg h, if_neg (fun e => h e.symm)])
    rw [this, a5_pt hi]
  | p + 1, hp => by
    have ih := mtx_row hB hi p (by omega)
    obtain ⟨b1, b2, b3, b4, b5⟩ := hB.2.2.2.2.2.2.1 p (by omega)
    have hn := hB.1.1
    have : a5 (mtx pl sp (p + 1) i) = a5 (fun j => mtx pl sp p i j + (if opn pl p = true ∧ cld pl sp (pl 7 p) = false then pcI (pl 7 p) (pl 8 p) (pl 9 p) i j else 0)) := rfl
    rw [this, a5_add (mtx pl sp p i), ih]
    by_cases c : opn pl p = true ∧ cld pl sp (pl 7 p) = false
    · have e : a5 (fun j => if opn pl p = true ∧ cld pl sp (pl 7 p) = false then pcI (pl 7 p) (pl 8 p) (pl 9 p) i j else 0) = a5 (pcI (pl 7 p) (pl 8 p) (pl 9 p) i) := a5_c (fun j _ => if_pos c)
      rw [e, pcI_row (by omega) (by omega)]; omega
    · have e : a5 (fun j => if opn pl p = true ∧ cld pl sp (pl 7 p) = false then pcI (pl 7 p) (pl 8 p) (pl 9 p) i j else 0) = a5 (fun _ => 0) := a5_c (fun j _ => if_neg c)
      rw [e]
      show _ + ((0 : Int) + 0 + 0 + 0 + 0) = _
      omega
theorem mtx_tr (hB : PB pl) : ∀ p, p ≤ pl 1 6 → a5 (fun i => mtx pl sp p i i) ≤ a5 (fun i => if cld pl sp i = true then 1 else (sp i : Int)) + 18 * p
  | 0, _ => by
    have : a5 (fun i => mtx pl sp 0 i i) = a5 (fun i => if cld pl sp i = true then 1 else (sp i : Int)) := a5_c (fun i _ => if_pos rfl)
    rw [this]; omega
  | p + 1, hp => by
    have ih := mtx_tr hB p (by omega)
    obtain ⟨b1, b2, b3, b4, b5⟩ := hB.2.2.2.2.2.2.1 p (by omega)
    have hn := hB.1.1
    have : a5 (fun i => mtx pl sp (p + 1) i i) = a5 (fun i => mtx pl sp p i i + (if opn pl p = true ∧ cld pl sp (pl 7 p) = false then pcI (pl 7 p) (pl 8 p) (pl 9 p) i i else 0)) := rfl
    rw [this, a5_add (fun i => mtx pl sp p i i)]
    by_cases c : opn pl p = true ∧ cld pl sp (pl 7 p) = false
    · have e : a5 (fun i => if opn pl p = true ∧ cld pl sp (pl 7 p) = false then pcI (pl 7 p) (pl 8 p) (pl 9 p) i i else 0) = a5 (fun i => pcI (pl 7 p) (pl 8 p) (pl 9 p) i i) := a5_c (fun j _ => if_pos c)
      rw [e, pcI_tr (by omega) (by omega) b3]; omega
    · have e : a5 (fun i => if opn pl p = true ∧ cld pl sp (pl 7 p) = false then pcI (pl 7 p) (pl 8 p) (pl 9 p) i i else 0) = a5 (fun _ => 0) := a5_c (fun j _ => if_neg c)
      rw [e]
      have : a5 (fun _ => (0 : Int)) = 0 := rfl
      omega
/-- an open pipe of rooms that are not closed shows -/
theorem mtx_pipe (hB : PB pl) {p' : Nat} (ho : opn pl p' = true) (hc : cld pl sp (pl 7 p') = false) : ∀ p, p ≤ pl 1 6 → p' < p → mtx pl sp p (pl 7 p') (pl 8 p') < 0
  | 0, _, h => absurd h (by omega)
  | p + 1, hp, h => by
    obtain ⟨b1, b2, b3, b4, b5⟩ := hB.2.2.2.2.2.2.1 p' (by omega)
    rw [mtx_s]
    by_cases e : p' = p
    · subst e
      rw [if_pos ⟨ho, hc⟩, pcI_ab b3]
      have := mtx_off (sp := sp) hB b3 p' (by omega)
      omega
    · have ih := mtx_pipe hB ho hc p (by omega) (by omega)
      obtain ⟨d1, d2, d3, d4, d5⟩ := hB.2.2.2.2.2.2.1 p (by omega)
      have := pcI_off (w := (pl 9 p : Int)) (by omega) d3 b3
      split <;> omega
theorem mtx_out (hB : PB pl) {i j : Nat} (hij : i ≠ j) (hj : pl 1 0 ≤ j) : ∀ p, p ≤ pl 1 6 → mtx pl sp p i j = 0
  | 0, _ => if_neg hij
  | p + 1, hp => by
    have ih := mtx_out hB hij hj p (by omega)
    obtain ⟨b1, b2, b3, b4, b5⟩ := hB.2.2.2.2.2.2.1 p (by omega)
    rw [mtx_s, ih]
    split
    · unfold pcI
      rw [if_neg (show ¬ j = pl 7 p by omega), if_neg (show ¬ j = pl 8 p by omega)]; rfl
    · rfl
theorem cld_iff (hB : PB pl) (r : Nat) : cld pl sp r = true ↔ ∀ q, q < 5 → (rc pl r).testBit q = true → sp q = 0 := clF_iff 5
theorem cld_eq (hB : PB pl) {r q : Nat} (h : (rc pl r).testBit q = true) : cld pl sp q = cld pl sp r := by
  unfold cld
  rw [rc_eq hB h]
theorem MM_v (hB : PB pl) : MM (vM pl sp lk) := by
  have hn := hB.1.1
  refine ⟨fun i j hi hj hij => ?_, fun i j hi hj => ?_, fun i hi => ?_, fun i hi => ?_, fun N hN => ?_⟩
  · rw [vM_lt hj]; exact mtx_off hB hij _ (Nat.le_refl _)
  · rw [vM_lt hj, vM_lt hi]; exact mtx_sym hB i j _ (Nat.le_refl _)
  · have e : a5 (vM pl sp lk i) = a5 (mtx pl sp (pl 1 6) i) := a5_c (fun j hj => vM_lt hj)
    rw [e, mtx_row hB hi _ (Nat.le_refl _)]
    split <;> omega
  · rw [vM_5]
    split <;> omega
  · obtain ⟨i, hi, hNi⟩ := hN
    have hrow : ∀ q, q < 5 → a5 (vM pl sp lk q) = if cld pl sp q = true then 1 else (sp q : Int) := fun q hq => by
      have e : a5 (vM pl sp lk q) = a5 (mtx pl sp (pl 1 6) q) := a5_c (fun j hj => vM_lt hj)
      rw [e, mtx_row hB hq _ (Nat.le_refl _)]
    cases hci : cld pl sp i
    · -- a pump is reached
      have hex : ∃ q, q < 5 ∧ (rc pl i).testBit q = true ∧ 0 < sp q := by
        apply Classical.byContradiction
        intro hne
        have : cld pl sp i = true := (cld_iff hB i).2 (fun q hq hr => by
          apply Nat.eq_zero_of_not_pos
          intro h0
          exact hne ⟨q, hq, hr, h0⟩)
        rw [this] at hci; cases hci
      obtain ⟨q, hq, hrq, hsq⟩ := hex
      by_cases hNq : N q
      · refine ⟨q, hq, hNq, Or.inl ?_⟩
        rw [hrow q hq]
        split <;> omega
      · have hsep : ∃ p, p < pl 1 6 ∧ opn pl p = true ∧ ((N (pl 7 p) ∧ (rc pl i).testBit (pl 7 p) = true) ≠ (N (pl 8 p) ∧ (rc pl i).testBit (pl 8 p) = true)) := by
          apply Classical.byContradiction
          intro hne
          have h1 := rc_min (pl := pl) (fun r => (N r ∧ (rc pl i).testBit r = true)) (pl 1 6) (fun p' hp' ho' => by
            apply Classical.byContradiction
            intro hd
            exact hne ⟨p', hp', ho', hd⟩) i q hrq
          have h2 : (N q ∧ (rc pl i).testBit q = true) := by
            rw [h1]
            exact ⟨hNi, rc_self hB i⟩
          exact hNq h2.1
        obtain ⟨p, hp, ho, hd⟩ := hsep
        obtain ⟨b1, b2, b3, b4, b5⟩ := hB.2.2.2.2.2.2.1 p hp
        have he := rc_open hB hp ho
        have hin : (rc pl i).testBit (pl 7 p) = true ↔ (rc pl i).testBit (pl 8 p) = true := by
          constructor
          · intro g
            rw [← rc_eq hB g, he]; exact rc_self hB _
          · intro g
            rw [← rc_eq hB g, ← he]; exact rc_self hB _
        have hcl : ∀ g : (rc pl i).testBit (pl 7 p) = true, cld pl sp (pl 7 p) = false := fun g => by rw [cld_eq hB g]; exact hci
        by_cases c1 : N (pl 7 p) ∧ (rc pl i).testBit (pl 7 p) = true
        · have c2 : ¬ N (pl 8 p) := fun g => hd (propext ⟨fun _ => ⟨g, hin.1 c1.2⟩, fun _ => c1⟩)
          refine ⟨pl 7 p, by omega, c1.1, Or.inr ⟨pl 8 p, by omega, c2, ?_⟩⟩
          rw [vM_lt (show pl 8 p < 5 by omega)]
          exact mtx_pipe hB ho (hcl c1.2) _ (Nat.le_refl _) hp
        · have c2 : N (pl 8 p) ∧ (rc pl i).testBit (pl 8 p) = true := by
            apply Classical.byContradiction
            intro g
            exact hd (propext ⟨fun g2 => absurd g2 c1, fun g2 => absurd g2 g⟩)
          have c3 : ¬ N (pl 7 p) := fun g => c1 ⟨g, hin.2 c2.2⟩
          refine ⟨pl 8 p, by omega, c2.1, Or.inr ⟨pl 7 p, by omega, c3, ?_⟩⟩
          rw [vM_lt (show pl 7 p < 5 by omega), mtx_sym hB _ _ _ (Nat.le_refl _)]
          exact mtx_pipe hB ho (hcl (hin.2 c2.2)) _ (Nat.le_refl _) hp
    · refine ⟨i, hi, hNi, Or.inl ?_⟩
      rw [hrow i hi, hci, if_pos rfl]; omega
/-- the sum of the numbers on the diagonal -/
theorem tr_v (hB : PB pl) (hs : sp 0 + sp 1 + sp 2 + sp 3 + sp 4 ≤ 126) : a5 (fun i => vM pl sp lk i i) ≤ 347 := by
  have hnp := hB.1.2.1
  have e : a5 (fun i => vM pl sp lk i i) = a5 (fun i => mtx pl sp (pl 1 6) i i) := a5_c (fun i hi => vM_lt hi)
  rw [e]
  have h1 := mtx_tr (sp := sp) hB (pl 1 6) (Nat.le_refl _)
  have h2 : a5 (fun i => if cld pl sp i = true then 1 else (sp i : Int)) ≤ a5 (fun i => 1 + (sp i : Int)) := a5_mono (fun i _ => by
    split <;> omega)
  have h3 : a5 (fun i => 1 + (sp i : Int)) ≤ 131 := by
    simp only [a5]
    omega
  omega
theorem L_v (hl : ∀ r, lk r ≤ 999) : 0 ≤ a5 (fun i => vM pl sp lk i 5) ∧ a5 (fun i => vM pl sp lk i 5) ≤ 4995 := by
  have h : ∀ i, 0 ≤ vM pl sp lk i 5 ∧ vM pl sp lk i 5 ≤ 999 := fun i => by
    have := hl i
    rw [vM_5]
    split <;> omega
  have h0 := h 0
  have h1 := h 1
  have h2 := h 2
  have h3 := h 3
  have h4 := h 4
  simp only [a5]
  omega
end MAT
