section BD
variable {v : Nat → Nat → Int} {T r : Nat}
/-- a row behind a set, at another place -/
theorem MT_bd (h : MM v) (hT : T < 32) (hr : r < 5) (hrT : T.testBit r = false) {j : Nat} (hj : j < 5) (hjT : T.testBit j = false) : - (v r r * PT v T) ≤ dt (v r) (yT v T j) ∧ dt (v r) (yT v T j) ≤ v r r * PT v T := by
  have hP := (PT_pos h T T (Nat.le_refl T) hT).1
  by_cases e : r = j
  · subst e
    have := yT_pos h hT hj hjT hP
    omega
  have hy5 : yT v T j 5 = 0 := yT_o v (tbT hT (by omega)) (by omega)
  have hin := yT_in h hT hj hjT hP
  have hyr : yT v T j r = 0 := yT_o v hrT e
  rw [dt_a5, hy5, Int.mul_zero, Int.add_zero, a5_one hr, hyr, Int.mul_zero, Int.zero_add]
  have h0 : 0 ≤ v r r * PT v T := by
    have := yT_pos h hT hr hrT hP
    omega
  have h1 : a5 (fun c => if c = r then 0 else v r c * yT v T j c) ≤ 0 := a5_le (fun c hc => by
    show (if c = r then 0 else v r c * yT v T j c) ≤ 0
    split
    · exact Int.le_refl 0
    · rename_i e
      exact nnp (h.1 r c hr hc (fun e' => e e'.symm)) (hin c hc).1)
  have h2 : a5 (v r) * PT v T - v r r * PT v T ≤ a5 (fun c => if c = r then 0 else v r c * yT v T j c) := by
    have e2 : a5 (v r) * PT v T - v r r * PT v T = a5 (fun c => if c = r then 0 else v r c * PT v T) := by
      rw [Int.mul_comm (a5 (v r)), a5_mul, a5_one (f := fun c => PT v T * v r c) hr, Int.mul_comm (v r r)]
      rw [a5_c (f := fun c => if c = r then 0 else v r c * PT v T) (g := fun c => if c = r then 0 else PT v T * v r c) (fun c _ => by
        show (if c = r then 0 else v r c * PT v T) = (if c = r then 0 else PT v T * v r c)
        rw [Int.mul_comm])]
      omega
    rw [e2]
    apply a5_mono
    intro c hc
    show (if c = r then 0 else v r c * PT v T) ≤ (if c = r then 0 else v r c * yT v T j c)
    split
    · exact Int.le_refl 0
    · rename_i e
      have h3 := nnp (h.1 r c hr hc (fun e' => e e'.symm)) (show 0 ≤ PT v T - yT v T j c by have := (hin c hc).2; omega)
      rw [Int.mul_sub] at h3
      omega
  have h3 := Int.mul_nonneg (h.2.2.1 r hr) (Int.le_of_lt hP)
  omega
/-- a row behind a set, at the sixth place -/
theorem MT_b5 (h : MM v) (hT : T < 32) (hr : r < 5) (hrT : T.testBit r = false) : 0 ≤ dt (v r) (yT v T 5) ∧ dt (v r) (yT v T 5) ≤ PT v T * a5 (fun i => v i 5) := by
  have hP := (PT_pos h T T (Nat.le_refl T) hT).1
  have h5T : T.testBit 5 = false := tbT hT (by omega)
  have hy5 := yT_j v h5T
  have hz5 : yT v T r 5 = 0 := yT_o v h5T (by omega)
  have hzr := yT_j v hrT
  have hin := yT_in h hT hr hrT hP
  have hky : ∀ i, i < 5 → T.testBit i = true → a5 (fun c => v i c * yT v T 5 c) = - (v i 5 * PT v T) := fun i hi hiT => by
    have := yT_k v (j := 5) hT (by omega) hiT
    rw [dt_a5, hy5] at this
    omega
  have hkz : ∀ i, i < 5 → T.testBit i = true → a5 (fun c => v i c * yT v T r c) = 0 := fun i hi hiT => by
    have := yT_k v (j := r) hT (by omega) hiT
    rw [dt_a5, hz5, Int.mul_zero, Int.add_zero] at this
    exact this
  have hyn : ∀ c, c < 5 → 0 ≤ (fun c => - yT v T 5 c) c := by
    refine mp h (T := T) ?_ ?_
    · intro c hc hcT
      show 0 ≤ - yT v T 5 c
      rw [yT_o v hcT (by omega)]
      omega
    · intro i hi hiT
      have e2 : a5 (fun c => v i c * (fun c => - yT v T 5 c) c) = - a5 (fun c => v i c * yT v T 5 c) := by
        simp only [a5]
        simp only [Int.mul_neg]
        omega
      rw [e2, hky i hi hiT]
      have := Int.mul_nonneg (h.2.2.2.1 i hi) (Int.le_of_lt hP)
      omega
  have hyn' : ∀ c, c < 5 → yT v T 5 c ≤ 0 := fun c hc => by
    have : 0 ≤ - yT v T 5 c := hyn c hc
    omega
  -- the sum of a row over the set, by the other one's kernel
  have hS : PT v T * a5 (fun i => v r i * yT v T 5 i) = PT v T * a5 (fun c => if c = r then 0 else yT v T r c * v c 5) := by
    have z1 : a5 (fun i => a5 (fun c => yT v T 5 i * (v i c * yT v T r c))) = 0 := by
      rw [a5_c (g := fun _ => 0) (fun i hi => by
        show a5 (fun c => yT v T 5 i * (v i c * yT v T r c)) = 0
        rw [← a5_mul]
        cases e : T.testBit i with
        | true => rw [hkz i hi e, Int.mul_zero]
        | false => rw [yT_o v e (by omega), Int.zero_mul])]
      rfl
    rw [a5_swap (fun i c => yT v T 5 i * (v i c * yT v T r c))] at z1
    have z2 : ∀ c, c < 5 → a5 (fun i => yT v T 5 i * (v i c * yT v T r c)) = yT v T r c * a5 (fun i => v c i * yT v T 5 i) := fun c hc => by
      rw [a5_mul]
      apply a5_c
      intro i hi
      rw [h.2.1 i c hi hc]
      simp only [Int.mul_assoc, Int.mul_left_comm, Int.mul_comm]
    rw [a5_c z2, a5_one (f := fun c => yT v T r c * a5 (fun i => v c i * yT v T 5 i)) hr, hzr] at z1
    have z3 : a5 (fun c => if c = r then 0 else yT v T r c * a5 (fun i => v c i * yT v T 5 i)) = - (PT v T * a5 (fun c => if c = r then 0 else yT v T r c * v c 5)) := by
      have : ∀ x : Int, - (PT v T * x) = (- PT v T) * x := fun x => (Int.neg_mul _ _).symm
      rw [this, a5_mul]
      apply a5_c
      intro c hc
      show (if c = r then 0 else yT v T r c * a5 (fun i => v c i * yT v T 5 i)) = (- PT v T) * (if c = r then 0 else yT v T r c * v c 5)
      by_cases e : c = r
      · rw [if_pos e, if_pos e, Int.mul_zero]
      · rw [if_neg e, if_neg e]
        cases e2 : T.testBit c with
        | true =>
          rw [hky c hc e2, Int.neg_mul, Int.mul_neg]
          simp only [Int.mul_assoc, Int.mul_left_comm, Int.mul_comm]
        | false => rw [yT_o v e2 e, Int.zero_mul, Int.zero_mul, Int.mul_zero]
    rw [z3] at z1
    omega
  have hS' := Int.eq_of_mul_eq_mul_left (by omega) hS
  have hL : a5 (fun i => v i 5) = v r 5 + a5 (fun c => if c = r then 0 else v c 5) := a5_one hr
  rw [dt_a5, hS', hy5, hL]
  have u1 : 0 ≤ a5 (fun c => if c = r then 0 else yT v T r c * v c 5) := by
    have : a5 (fun _ => 0) ≤ a5 (fun c => if c = r then 0 else yT v T r c * v c 5) := a5_mono (fun c hc => by
      show 0 ≤ if c = r then 0 else yT v T r c * v c 5
      split
      · exact Int.le_refl 0
      · exact Int.mul_nonneg (hin c hc).1 (h.2.2.2.1 c hc))
    exact this
  have u2 : a5 (fun c => if c = r then 0 else yT v T r c * v c 5) ≤ PT v T * a5 (fun c => if c = r then 0 else v c 5) := by
    rw [a5_mul]
    apply a5_mono
    intro c hc
    show (if c = r then 0 else yT v T r c * v c 5) ≤ PT v T * (if c = r then 0 else v c 5)
    split
    · rw [Int.mul_zero]; exact Int.le_refl 0
    · exact Int.mul_le_mul_of_nonneg_right (hin c hc).2 (h.2.2.2.1 c hc)
  have u3 := Int.mul_nonneg (h.2.2.2.1 r hr) (Int.le_of_lt hP)
  rw [Int.mul_add, Int.mul_comm (PT v T) (v r 5)]
  omega
end BD
/-- a row without a common factor -/
def prim (w : Nat → Int) : Prop := ∃ u : Nat → Int, s6 (fun c => u c * w c) = 1
/-- the columns cleared before column c in row r -/
def Tcr (c r : Nat) : Nat := if r < c then (2 ^ c - 1) ^^^ 2 ^ r else 2 ^ c - 1
theorem Tcr_lt : ∀ c, c < 6 → ∀ r, r < 5 → Tcr c r < 32 := by decide +kernel
theorem Tcr_tb : ∀ c, c < 6 → ∀ r, r < 5 → ∀ i, i < 6 → (Tcr c r).testBit i = (decide (i < c) && !decide (i = r)) := by decide +kernel
theorem Tcr_in {c r i : Nat} (hc : c < 6) (hr : r < 5) (hi : i < 6) : (Tcr c r).testBit i = true ↔ i < c ∧ i ≠ r := by
  rw [Tcr_tb c hc r hr i hi, Bool.and_eq_true, Bool.not_eq_true', decide_eq_true_eq, decide_eq_false_iff_not]
theorem Tcr_r {c r : Nat} (hc : c < 6) (hr : r < 5) : (Tcr c r).testBit r = false := by
  rw [Tcr_tb c hc r hr r (by omega), decide_eq_true rfl, Bool.not_true, Bool.and_false]
/-- row r, as it may be when the columns before c are cleared -/
def RI (v : Nat → Nat → Int) (n c r : Nat) (w : Nat → Int) : Prop :=
  (∀ i, i < c → i ≠ r → w i = 0) ∧ (∀ j, n ≤ j → j < 5 → w j = 0) ∧ (∀ y, (∀ i, i < 5 → (i < c ∨ i = r) → dt (v i) y = 0) → dt w y = 0) ∧ w r ≠ 0 ∧ (prim w ∨ ∀ j, j < 6 → w j = v r j)
section RR0
variable {v : Nat → Nat → Int} {n c r : Nat} {w : Nat → Int}
theorem RI_dt (hc : c < 6) (hr : r < 5) (h : RI v n c r w) {j : Nat} (hj : j < 6) (hjT : (Tcr c r).testBit j = false) : dt w (yT v (Tcr c r) j) = w j * PT v (Tcr c r) := by
  have h1 : ∀ i, i < 6 → w i * yT v (Tcr c r) j i = if i = j then w j * PT v (Tcr c r) else 0 := fun i hi => by
    by_cases e : i = j
    · subst e; rw [if_pos rfl, yT_j v hjT]
    · rw [if_neg e]
      cases e2 : (Tcr c r).testBit i with
      | true =>
        have := (Tcr_in hc hr hi).1 e2
        rw [h.1 i this.1 this.2, Int.zero_mul]
      | false => rw [yT_o v e2 e, Int.mul_zero]
  unfold dt
  rw [s6_c h1]
  simp only [s6]
  rcases (by omega : j = 0 ∨ j = 1 ∨ j = 2 ∨ j = 3 ∨ j = 4 ∨ j = 5) with rfl | rfl | rfl | rfl | rfl | rfl <;> simp only [reduceIte, Nat.reduceEqDiff] <;> omega
theorem dt_sub (u y z : Nat → Int) (a b : Int) : dt u (fun c => a * y c - b * z c) = a * dt u y - b * dt u z := by
  simp only [dt, s6]
  simp only [Int.mul_sub, Int.mul_add, Int.mul_left_comm (u _)]
  omega
/-- the row is what it would be by minors, but for a factor -/
theorem RI_pr (hM : MM v) (hc : c < 6) (hr : r < 5) (h : RI v n c r w) {j : Nat} (hj : j < 6) (hjT : (Tcr c r).testBit j = false) : dt (v r) (yT v (Tcr c r) r) * (w j) = w r * dt (v r) (yT v (Tcr c r) j) := by
  have hT := Tcr_lt c hc r hr
  have hP := (PT_pos hM _ _ (Nat.le_refl _) hT).1
  have h1 := h.2.2.1 (fun k => dt (v r) (yT v (Tcr c r) r) * yT v (Tcr c r) j k - dt (v r) (yT v (Tcr c r) j) * yT v (Tcr c r) r k) (fun i hi hic => by
    rw [dt_sub]
    by_cases e : i = r
    · subst e
      rw [Int.mul_comm]
      omega
    · have hiT := (Tcr_in hc hr (show i < 6 by omega)).2 ⟨by omega, e⟩
      rw [yT_k v hT hj hiT, yT_k v hT (by omega) hiT, Int.mul_zero, Int.mul_zero]
      rfl)
  rw [dt_sub, RI_dt hc hr h hj hjT, RI_dt hc hr h (by omega) (Tcr_r hc hr)] at h1
  have h2 : PT v (Tcr c r) * (dt (v r) (yT v (Tcr c r) r) * w j) = PT v (Tcr c r) * (w r * dt (v r) (yT v (Tcr c r) j)) := by
    have e1 : dt (v r) (yT v (Tcr c r) r) * (w j * PT v (Tcr c r)) = PT v (Tcr c r) * (dt (v r) (yT v (Tcr c r) r) * w j) := by
      simp only [Int.mul_assoc, Int.mul_left_comm, Int.mul_comm]
    have e2 : dt (v r) (yT v (Tcr c r) j) * (w r * PT v (Tcr c r)) = PT v (Tcr c r) * (w r * dt (v r) (yT v (Tcr c r) j)) := by
      simp only [Int.mul_assoc, Int.mul_left_comm, Int.mul_comm]
    rw [e1, e2] at h1
    omega
  exact Int.eq_of_mul_eq_mul_left (by omega) h2
theorem abs_mul_le {t x m : Int} (ht : t ≠ 0) (e : m = t * x) : x.natAbs ≤ m.natAbs := by
  rw [e, Int.natAbs_mul]
  have : 1 ≤ t.natAbs := by omega
  exact Nat.le_mul_of_pos_left _ (by omega)
/-- the row is no greater than its minors -/
theorem RI_le (hM : MM v) (hc : c < 6) (hr : r < 5) (h : RI v n c r w) {j : Nat} (hj : j < 6) (hjT : (Tcr c r).testBit j = false) : (w j).natAbs ≤ (dt (v r) (yT v (Tcr c r) j)).natAbs := by
  have hT := Tcr_lt c hc r hr
  have hP := (PT_pos hM _ _ (Nat.le_refl _) hT).1
  have hpos := yT_pos hM hT hr (Tcr_r hc hr) hP
  rcases h.2.2.2.2 with ⟨u, hu⟩ | h1
  · have h2 : ∀ k, k < 6 → dt (v r) (yT v (Tcr c r) r) * (u k * w k) = w r * (u k * (if (Tcr c r).testBit k then 0 else dt (v r) (yT v (Tcr c r) k))) := fun k hk => by
      cases e : (Tcr c r).testBit k with
      | true =>
        have := (Tcr_in hc hr hk).1 e
        rw [h.1 k this.1 this.2, if_pos rfl, Int.mul_zero, Int.mul_zero, Int.mul_zero]
      | false =>
        rw [if_neg (by decide)]
        have := RI_pr hM hc hr h hk e
        rw [Int.mul_left_comm, this, Int.mul_left_comm]
    have h3 : dt (v r) (yT v (Tcr c r) r) = w r * s6 (fun k => u k * (if (Tcr c r).testBit k then 0 else dt (v r) (yT v (Tcr c r) k))) := by
      rw [s6_mul, ← s6_c h2, ← s6_mul, hu, Int.mul_one]
    generalize s6 (fun k => u k * (if (Tcr c r).testBit k then 0 else dt (v r) (yT v (Tcr c r) k))) = t at h3
    have h4 := RI_pr hM hc hr h hj hjT
    rw [h3, Int.mul_assoc] at h4
    have h5 := Int.eq_of_mul_eq_mul_left h.2.2.2.1 h4
    refine abs_mul_le (t := t) ?_ h5.symm
    rintro rfl
    rw [Int.mul_zero] at h3
    omega
  · have h2 := RI_dt hc hr h hj hjT
    have h3 : dt w (yT v (Tcr c r) j) = dt (v r) (yT v (Tcr c r) j) := s6_c (fun k hk => by rw [h1 k hk])
    rw [h3] at h2
    refine abs_mul_le (t := PT v (Tcr c r)) (by omega) ?_
    rw [h2, Int.mul_comm]
theorem RI_bd (hM : MM v) (hc : c < 6) (hr : r < 5) (h : RI v n c r w) {j : Nat} (hj : j < 5) : - (v r r * prT (fun i => v i i) (Tcr c r)) ≤ w j ∧ w j ≤ v r r * prT (fun i => v i i) (Tcr c r) := by
  have hT := Tcr_lt c hc r hr
  have hP := PT_pos hM _ _ (Nat.le_refl _) hT
  have hpos := yT_pos hM hT hr (Tcr_r hc hr) hP.1
  have hv : 0 ≤ v r r := by
    rcases Int.lt_or_le (v r r) 0 with h1 | h1
    · exfalso
      have := nlt h1 hP.1
      omega
    · exact h1
  have h1 := Int.mul_le_mul_of_nonneg_left hP.2 hv
  cases e : (Tcr c r).testBit j with
  | true =>
    have := (Tcr_in hc hr (show j < 6 by omega)).1 e
    rw [h.1 j this.1 this.2]
    omega
  | false =>
    have h2 := RI_le hM hc hr h (show j < 6 by omega) e
    have h3 := MT_bd hM hT hr (Tcr_r hc hr) hj e
    omega
theorem RI_b5 (hM : MM v) (hc : c < 6) (hr : r < 5) (h : RI v n c r w) : - (prT (fun i => v i i) (Tcr c r) * a5 (fun i => v i 5)) ≤ w 5 ∧ w 5 ≤ prT (fun i => v i i) (Tcr c r) * a5 (fun i => v i 5) := by
  have hT := Tcr_lt c hc r hr
  have hP := PT_pos hM _ _ (Nat.le_refl _) hT
  have hL : 0 ≤ a5 (fun i => v i 5) := by
    have : a5 (fun _ => 0) ≤ a5 (fun i => v i 5) := a5_mono (fun i hi => hM.2.2.2.1 i hi)
    exact this
  have h1 := Int.mul_le_mul_of_nonneg_right hP.2 hL
  have h2 := RI_le hM hc hr h (show 5 < 6 by omega) (tbT hT (by omega))
  have h3 := MT_b5 hM hT hr (Tcr_r hc hr)
  omega
end RR0
/-- a row that is cleared at column c -/
theorem RI_up0 {v : Nat → Nat → Int} {n c r : Nat} {w wc w' : Nat → Int} (hM : MM v) (hc : c < 5) (hr : r < 5) (hrc : r ≠ c) (h : RI v n c r w) (hw : RI v n c c wc) {d : Int} (hd : d ≠ 0) (he : ∀ j, j < 6 → d * w' j = w j * wc c - wc j * w c) : (∀ i, i < c + 1 → i ≠ r → w' i = 0) ∧ (∀ j, n ≤ j → j < 5 → w' j = 0) ∧ (∀ y, (∀ i, i < 5 → (i < c + 1 ∨ i = r) → dt (v i) y = 0) → dt w' y = 0) ∧ w' r ≠ 0 := by
  have hz : ∀ {x : Int}, d * x = 0 → x = 0 := fun {x} hx => by
    rcases Int.mul_eq_zero.mp hx with h1 | h1
    · exact absurd h1 hd
    · exact h1
  have hdt : ∀ y, d * dt w' y = wc c * dt w y - w c * dt wc y := fun y => by
    unfold dt
    rw [s6_mul, s6_mul, s6_mul]
    have e1 : ∀ j, j < 6 → d * (w' j * y j) = wc c * (w j * y j) + - (w c * (wc j * y j)) := fun j hj => by
      rw [← Int.mul_assoc, he j hj, Int.sub_mul]
      have e2 : w j * wc c * y j = wc c * (w j * y j) := by simp only [Int.mul_assoc, Int.mul_left_comm, Int.mul_comm]
      have e3 : wc j * w c * y j = w c * (wc j * y j) := by simp only [Int.mul_assoc, Int.mul_left_comm, Int.mul_comm]
      rw [e2, e3]
      omega
    rw [s6_c e1, ← s6_add, s6_neg]
    omega
  refine ⟨?_, ?_, ?_, ?_⟩
  · intro i hi hir
    apply hz
    rw [he i (by omega)]
    by_cases e : i = c
    · subst e
      rw [Int.mul_comm]
      omega
    · rw [h.1 i (by omega) hir, hw.1 i (by omega) e, Int.zero_mul, Int.zero_mul]
      rfl
  · intro j h1 h2
    apply hz
    rw [he j (by omega), h.2.1 j h1 h2, hw.2.1 j h1 h2, Int.zero_mul, Int.zero_mul]
    rfl
  · intro y hy
    apply hz
    rw [hdt, h.2.2.1 y (fun i h1 h2 => hy i h1 (by omega)), hw.2.2.1 y (fun i h1 h2 => hy i h1 (by omega)), Int.mul_zero, Int.mul_zero]
    rfl
  · intro h0
    have hT := Tcr_lt (c + 1) (by omega) r hr
    have hP := PT_pos hM _ _ (Nat.le_refl _) hT
    by_cases e : r < c
    · have h1 := he r (by omega)
      rw [h0, hw.1 r e hrc, Int.mul_zero, Int.zero_mul, Int.sub_zero] at h1
      rcases Int.mul_eq_zero.mp h1.symm with h2 | h2
      · exact h.2.2.2.1 h2
      · exact hw.2.2.2.1 h2
    · -- the vector that the set with c leaves
      have hT0 := Tcr_lt c (by omega) r hr
      have hP0 := PT_pos hM _ _ (Nat.le_refl _) hT0
      have q1 := yT_pos hM hT hr (Tcr_r (by omega) hr) hP.1
      have q0 := yT_pos hM hT0 hr (Tcr_r (by omega) hr) hP0.1
      have k1 : ∀ i, i < 5 → i < c + 1 → dt (v i) (yT v (Tcr (c + 1) r) r) = 0 := fun i h1 h2 => yT_k v hT (by omega) ((Tcr_in (by omega) hr (by omega)).2 ⟨h2, by omega⟩)
      have k2 := hdt (yT v (Tcr (c + 1) r) r)
      rw [hw.2.2.1 _ (fun i h1 h2 => k1 i h1 (by omega)), Int.mul_zero, Int.sub_zero] at k2
      -- dt w' y is w' r times the minor: 0
      have k3 : dt w' (yT v (Tcr (c + 1) r) r) = 0 := by
        have e3 : ∀ i, i < 6 → w' i * yT v (Tcr (c + 1) r) r i = 0 := fun i hi => by
          by_cases e1 : i = r
          · subst e1; rw [h0, Int.zero_mul]
          · cases e2 : (Tcr (c + 1) r).testBit i with
            | true =>
              have h5 := (Tcr_in (by omega) hr hi).1 e2
              have h6 : w' i = 0 := by
                apply hz
                rw [he i hi]
                by_cases e4 : i = c
                · subst e4
                  rw [Int.mul_comm]
                  omega
                · rw [h.1 i (by omega) e1, hw.1 i (by omega) e4, Int.zero_mul, Int.zero_mul]
                  rfl
              rw [h6, Int.zero_mul]
            | false => rw [yT_o v e2 e1, Int.mul_zero]
        unfold dt
        exact s6_0 e3
      rw [k3, Int.mul_zero] at k2
      have k4 : dt w (yT v (Tcr (c + 1) r) r) = 0 := by
        rcases Int.mul_eq_zero.mp k2.symm with h2 | h2
        · exact absurd h2 hw.2.2.2.1
        · exact h2
      -- but it is not 0: both kernels
      have k5 := h.2.2.1 (fun k => dt (v r) (yT v (Tcr c r) r) * yT v (Tcr (c + 1) r) r k - dt (v r) (yT v (Tcr (c + 1) r) r) * yT v (Tcr c r) r k) (fun i hi hic => by
        rw [dt_sub]
        by_cases e1 : i = r
        · subst e1
          rw [Int.mul_comm]
          omega
        · rw [k1 i hi (by omega), yT_k v hT0 (by omega) ((Tcr_in (by omega) hr (by omega)).2 ⟨by omega, e1⟩), Int.mul_zero, Int.mul_zero]
          rfl)
      rw [dt_sub, k4, Int.mul_zero, RI_dt (by omega) hr h (by omega) (Tcr_r (by omega) hr)] at k5
      have k6 : dt (v r) (yT v (Tcr (c + 1) r) r) * (w r * PT v (Tcr c r)) = 0 := by omega
      rcases Int.mul_eq_zero.mp k6 with h2 | h2
      · omega
      · rcases Int.mul_eq_zero.mp h2 with h3 | h3
        · exact h.2.2.2.1 h3
        · omega
theorem RI_up {v : Nat → Nat → Int} {n c r : Nat} {w wc w' : Nat → Int} (hM : MM v) (hc : c < 5) (hr : r < 5) (hrc : r ≠ c) (h : RI v n c r w) (hw : RI v n c c wc) {d : Int} (hd : d ≠ 0) (he : ∀ j, j < 6 → d * w' j = w j * wc c - wc j * w c) (hp : prim w') : RI v n (c + 1) r w' := by
  obtain ⟨h1, h2, h3, h4⟩ := RI_up0 hM hc hr hrc h hw hd he
  exact ⟨h1, h2, h3, h4, Or.inl hp⟩
/-- a row that has nothing at column c stays -/
theorem RI_st {v : Nat → Nat → Int} {n c r : Nat} {w : Nat → Int} (h : RI v n c r w) (h0 : r ≠ c → w c = 0) : RI v n (c + 1) r w := by
  refine ⟨fun i hi hir => ?_, h.2.1, fun y hy => h.2.2.1 y (fun i h1 h2 => hy i h1 (by omega)), h.2.2.2⟩
  by_cases e : i = c
  · subst e; exact h0 (fun e => hir e.symm)
  · exact h.1 i (by omega) hir
/-- the last: what the row says of the rest -/
theorem RI_end {v : Nat → Nat → Int} {n r : Nat} {w : Nat → Int} (hr : r < 5) (hn : n < 6) (hrn : r < n) (h : RI v n n r w) : w 5 * PT v 31 = w r * - yT v 31 5 r := by
  have h1 := h.2.2.1 (yT v 31 5) (fun i hi _ => yT_k v (by omega) (by omega) (by
    rcases (by omega : i = 0 ∨ i = 1 ∨ i = 2 ∨ i = 3 ∨ i = 4) with rfl | rfl | rfl | rfl | rfl <;> decide))
  have hw : ∀ i, i < 5 → i ≠ r → w i = 0 := fun i hi hir => by
    by_cases e : i < n
    · exact h.1 i e hir
    · exact h.2.1 i (by omega) hi
  have h5 : yT v 31 5 5 = PT v 31 := yT_j v (by decide)
  rw [dt_a5, h5, a5_one hr] at h1
  rw [a5_c (g := fun _ => 0) (fun c hc => by
    show (if c = r then 0 else w c * yT v 31 5 c) = 0
    split
    · rfl
    · rename_i e
      rw [hw c hc e, Int.zero_mul])] at h1
  rw [Int.mul_neg]
  have : a5 (fun _ => (0 : Int)) = 0 := rfl
  omega
