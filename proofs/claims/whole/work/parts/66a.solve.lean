/-! ===== at rest: both fractions ===== -/
theorem RI_fin {v : Nat → Nat → Int} (hM : MM v) (ht : a5 (fun i => v i i) ≤ 347) (hL : a5 (fun i => v i 5) ≤ 4995) {n r : Nat} {w : Nat → Int} (hn : n ≤ 5) (hr : r < n) (h : RI v n n r w) : w r ≠ 0 ∧ w 5 * PT v 31 = w r * PT (vR v r) 31 ∧ (w r).natAbs ≤ 1700000000 ∧ (w 5).natAbs ≤ 8491500000000 ∧ 0 < PT v 31 ∧ PT v 31 ≤ 1700000000 := by
  have hd0 := diag_1 hM
  have hP1 := prT_31 (d := fun i => v i i) hd0 ht
  have hT := Tcr_lt n (by omega) r (by omega)
  have tr := Tcr_r (c := n) (r := r) (by omega) (by omega)
  have hPT := PT_pos hM 31 31 (Nat.le_refl _) (by omega)
  have hL0 : 0 ≤ a5 (fun i => v i 5) := by
    have : a5 (fun _ => 0) ≤ a5 (fun i => v i 5) := a5_mono (fun i hi => hM.2.2.2.1 i hi)
    exact this
  have h5 := RI_b5 hM (by omega) (by omega) h
  have hb := RI_bd hM (by omega) (by omega) h (j := r) (by omega)
  have he := RI_end (by omega) (by omega) hr h
  have hup : v r r * prT (fun i => v i i) (Tcr n r) ≤ prT (fun i => v i i) 31 := by
    have e := prT_top (fun i => v i i) (m := r) (by omega) tr
    rw [← e]
    exact prT_le (T' := 31) hd0 (fun i hi _ => by rcases (show i = 0 ∨ i = 1 ∨ i = 2 ∨ i = 3 ∨ i = 4 by omega) with rfl | rfl | rfl | rfl | rfl <;> decide)
  have hle : prT (fun i => v i i) (Tcr n r) ≤ prT (fun i => v i i) 31 := prT_le (T' := 31) hd0 (fun i hi _ => by rcases (show i = 0 ∨ i = 1 ∨ i = 2 ∨ i = 3 ∨ i = 4 by omega) with rfl | rfl | rfl | rfl | rfl <;> decide)
  have h0 := prT_1 (d := fun i => v i i) hd0 (Tcr n r)
  have hpl : prT (fun i => v i i) (Tcr n r) * a5 (fun i => v i 5) ≤ 1700000000 * 4995 := im_le (by omega) hL (by omega) (by omega)
  refine ⟨h.2.2.2.1, ?_, ?_, ?_, hPT.1, Int.le_trans hPT.2 hP1⟩
  · rw [PT_R v (by omega)]; exact he
  · omega
  · omega
theorem v_abs {v : Nat → Nat → Int} (hM : MM v) (ht : a5 (fun i => v i i) ≤ 347) : ∀ i, i < 5 → ∀ j, j < 5 → (v i j).natAbs ≤ 347 := by
  have hd0 := diag_1 hM
  have d0 := hd0 0 (by omega)
  have d1 := hd0 1 (by omega)
  have d2 := hd0 2 (by omega)
  have d3 := hd0 3 (by omega)
  have d4 := hd0 4 (by omega)
  simp only [a5] at ht
  intro i hi j hj
  have hs := hM.2.2.1 i hi
  simp only [a5] at hs
  have o : ∀ k, k < 5 → i ≠ k → v i k ≤ 0 := fun k hk h => hM.1 i k hi hk h
  have o0 := o 0 (by omega)
  have o1 := o 1 (by omega)
  have o2 := o 2 (by omega)
  have o3 := o 3 (by omega)
  have o4 := o 4 (by omega)
  rcases (show i = 0 ∨ i = 1 ∨ i = 2 ∨ i = 3 ∨ i = 4 by omega) with rfl | rfl | rfl | rfl | rfl <;> rcases (show j = 0 ∨ j = 1 ∨ j = 2 ∨ j = 3 ∨ j = 4 by omega) with rfl | rfl | rfl | rfl | rfl <;> omega
theorem N_bd {v : Nat → Nat → Int} (hM : MM v) (ht : a5 (fun i => v i i) ≤ 347) (hl : ∀ i, i < 5 → v i 5 ≤ 999) {r : Nat} : (PT (vR v r) 31).natAbs ≤ 7737197682278872224 := by
  have h := v_abs hM ht
  have h5 : ∀ i, i < 5 → (v i 5).natAbs ≤ 999 := fun i hi => by
    have h1 := hM.2.2.2.1 i hi
    have h2 := hl i hi
    omega
  have := WT_bd (v := vR v r) (fun i c hi hc => by
    unfold vR
    by_cases e : c = r
    · rw [if_pos e]; exact h5 i hi
    · rw [if_neg e]
      by_cases e2 : c < 5
      · exact Nat.le_trans (h i hi c e2) (by omega)
      · rw [show c = 5 by omega]; exact h5 i hi) 5 (Nat.le_refl _) 31
  exact this
theorem frac {x y N D : Int} (hy : y ≠ 0) (hD : 0 < D) (h : x * D = y * N) : ∃ t p q : Int, t ≠ 0 ∧ x = t * p ∧ y = t * q ∧ 0 < q ∧ (Nat.gcd x.natAbs y.natAbs : Int) = t.natAbs ∧ 0 < Nat.gcd N.natAbs D.natAbs ∧ N = (Nat.gcd N.natAbs D.natAbs : Int) * p ∧ D = (Nat.gcd N.natAbs D.natAbs : Int) * q := by
  have hG : 0 < Nat.gcd N.natAbs D.natAbs := Nat.gcd_pos_of_pos_right _ (by omega)
  have h1 : (Nat.gcd N.natAbs D.natAbs : Int) ∣ N := Int.ofNat_dvd_left.2 (Nat.gcd_dvd_left _ _)
  have h2 : (Nat.gcd N.natAbs D.natAbs : Int) ∣ D := Int.ofNat_dvd_left.2 (Nat.gcd_dvd_right _ _)
  obtain ⟨p, hp⟩ := h1
  obtain ⟨q, hq⟩ := h2
  generalize hg : Nat.gcd N.natAbs D.natAbs = g at *
  have hq0 : 0 < q := by
    rw [hq] at hD
    exact Int.pos_of_mul_pos_right hD (by omega)
  have hco : Nat.gcd p.natAbs q.natAbs = 1 := by
    have e : g * Nat.gcd p.natAbs q.natAbs = g * 1 := by
      rw [← Nat.gcd_mul_left, Nat.mul_one]
      have a1 : g * p.natAbs = N.natAbs := by rw [hp, Int.natAbs_mul, Int.natAbs_natCast]
      have a2 : g * q.natAbs = D.natAbs := by rw [hq, Int.natAbs_mul, Int.natAbs_natCast]
      rw [a1, a2, hg]
    exact Nat.eq_of_mul_eq_mul_left hG e
  have hxq : x * q = y * p := by
    have e : (g : Int) * (x * q) = (g : Int) * (y * p) := by
      rw [Int.mul_left_comm, ← hq, h, hp, Int.mul_left_comm]
    exact Int.eq_of_mul_eq_mul_left (by omega) e
  have hdv : q.natAbs ∣ y.natAbs := by
    have : q.natAbs ∣ y.natAbs * p.natAbs := by
      rw [← Int.natAbs_mul, ← hxq, Int.natAbs_mul]
      exact Nat.dvd_mul_left _ _
    exact Nat.Coprime.dvd_of_dvd_mul_right (by unfold Nat.Coprime; rw [Nat.gcd_comm]; exact hco) this
  obtain ⟨t, ht⟩ := Int.natAbs_dvd_natAbs.1 hdv
  have hyt : y = t * q := by rw [ht, Int.mul_comm]
  have ht0 : t ≠ 0 := fun e => hy (by rw [hyt, e, Int.zero_mul])
  have hx : x = t * p := by
    have e : q * x = q * (t * p) := by
      rw [Int.mul_comm q x, hxq, hyt, Int.mul_comm t q, Int.mul_assoc]
    exact Int.eq_of_mul_eq_mul_left (by omega) e
  refine ⟨t, p, q, ht0, hx, hyt, hq0, ?_, hG, hp, hq⟩
  rw [hx, hyt, Int.natAbs_mul, Int.natAbs_mul, Nat.gcd_mul_left, hco, Nat.mul_one]
theorem zJ_quo {s p : Int} (h0 : s ≠ 0) (h1 : (s * p).natAbs < 9223372036854775808) (h2 : s.natAbs < 9223372036854775808) : zJ (s * p) / zJ s = zJ p := by
  apply i64_eq
  have hw : p.natAbs ≤ (s * p).natAbs := by
    rw [Int.natAbs_mul]
    exact Nat.le_mul_of_pos_left _ (by omega)
  rw [Int64.toInt_div, zJ_t (by omega) (by omega), zJ_t (by omega) (by omega), zJ_t (by omega) (by omega), Int.mul_tdiv_cancel_left p h0, bmJ (by omega) (by omega)]
