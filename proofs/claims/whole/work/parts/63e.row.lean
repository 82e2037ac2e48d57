/-! ===== a row cleared and shortened ===== -/
theorem bezN : ∀ b a : Nat, ∃ s t : Int, s * a + t * b = (Nat.gcd a b : Int) := by
  intro b
  induction b using Nat.strongRecOn with
  | _ b ih =>
    intro a
    by_cases h : b = 0
    · subst h
      exact ⟨1, 0, by rw [Nat.gcd_zero_right, Int.one_mul, Int.zero_mul, Int.add_zero]⟩
    · obtain ⟨s, t, e⟩ := ih (a % b) (Nat.mod_lt _ (by omega)) b
      rw [gcd_st] at e
      refine ⟨t, s - t * (a / b : Nat), ?_⟩
      rw [← e]
      have hm : ((a % b : Nat) : Int) = a - (b : Int) * (a / b : Nat) := by
        have := Nat.div_add_mod a b
        have e2 : ((b * (a / b) : Nat) : Int) = (b : Int) * (a / b : Nat) := Int.natCast_mul _ _
        omega
      rw [hm, Int.sub_mul, Int.mul_sub]
      have e3 : t * ((a / b : Nat) : Int) * b = t * ((b : Int) * (a / b : Nat)) := by rw [Int.mul_assoc, Int.mul_comm (((a / b : Nat) : Int))]
      rw [e3]
      omega
theorem bez (a b : Int) : ∃ s t : Int, s * a + t * b = (Nat.gcd a.natAbs b.natAbs : Int) := by
  obtain ⟨s, t, e⟩ := bezN b.natAbs a.natAbs
  have ha : ∃ x : Int, x * a = (a.natAbs : Int) := by
    by_cases h : 0 ≤ a
    · exact ⟨1, by omega⟩
    · exact ⟨-1, by omega⟩
  have hb : ∃ x : Int, x * b = (b.natAbs : Int) := by
    by_cases h : 0 ≤ b
    · exact ⟨1, by omega⟩
    · exact ⟨-1, by omega⟩
  obtain ⟨x, hx⟩ := ha
  obtain ⟨y, hy⟩ := hb
  exact ⟨s * x, t * y, by rw [Int.mul_assoc, Int.mul_assoc, hx, hy]; exact e⟩
/-- the greatest common divisor of the first k -/
def gK (x : Nat → Int) : Nat → Nat
  | 0 => 0
  | k + 1 => Nat.gcd (gK x k) (x k).natAbs
theorem gK_dvd (x : Nat → Int) : ∀ k j, j < k → (gK x k : Int) ∣ x j
  | 0, j, h => absurd h (by omega)
  | k + 1, j, h => by
    by_cases e : j = k
    · subst e
      exact Int.ofNat_dvd_left.2 (Nat.gcd_dvd_right _ _)
    · exact Int.dvd_trans (Int.natCast_dvd_natCast.2 (Nat.gcd_dvd_left _ _)) (gK_dvd x k j (by omega))
theorem gK_bez (x : Nat → Int) : ∃ u : Nat → Int, s6 (fun c => u c * x c) = (gK x 6 : Int) := by
  have st : ∀ k, ∃ s t : Int, s * (gK x k : Int) + t * x k = (gK x (k + 1) : Int) := fun k => by
    obtain ⟨s, t, e⟩ := bez (gK x k) (x k)
    exact ⟨s, t, e⟩
  obtain ⟨s0, t0, e0⟩ := st 0
  obtain ⟨s1, t1, e1⟩ := st 1
  obtain ⟨s2, t2, e2⟩ := st 2
  obtain ⟨s3, t3, e3⟩ := st 3
  obtain ⟨s4, t4, e4⟩ := st 4
  obtain ⟨s5, t5, e5⟩ := st 5
  have z0 : (gK x 0 : Int) = 0 := rfl
  rw [z0, Int.mul_zero, Int.zero_add] at e0
  refine ⟨fun c => if c = 0 then s5 * (s4 * (s3 * (s2 * (s1 * t0)))) else if c = 1 then s5 * (s4 * (s3 * (s2 * t1))) else if c = 2 then s5 * (s4 * (s3 * t2)) else if c = 3 then s5 * (s4 * t3) else if c = 4 then s5 * t4 else t5, ?_⟩
  rw [← e5, ← e4, ← e3, ← e2, ← e1, ← e0]
  simp only [s6, reduceIte, Nat.reduceEqDiff, Int.mul_add, Int.mul_assoc]
theorem gK_prim {x : Nat → Int} (h : gK x 6 ≠ 0) {w : Nat → Int} (hw : ∀ j, j < 6 → (gK x 6 : Int) * w j = x j) : prim w := by
  obtain ⟨u, hu⟩ := gK_bez x
  refine ⟨u, ?_⟩
  have e : (gK x 6 : Int) * s6 (fun c => u c * w c) = (gK x 6 : Int) * 1 := by
    rw [s6_mul, Int.mul_one]
    refine Eq.trans (s6_c (fun c hc => ?_)) hu
    rw [Int.mul_left_comm, hw c hc]
  exact Int.eq_of_mul_eq_mul_left (by omega) e
section ROW
variable {v : Nat → Nat → Int} {n c r : Nat} {w wc : Nat → Int}
theorem diag_1 (hM : MM v) : ∀ i, i < 5 → 1 ≤ v i i := fun i hi => by
  have h0 : Nat.testBit 0 i = false := Nat.zero_testBit i
  have hP : 0 < PT v 0 := by show (0 : Int) < 1; omega
  have := yT_pos hM (T := 0) (j := i) (by omega) hi h0 hP
  have e : PT v 0 = 1 := rfl
  rw [e, Int.mul_one] at this
  omega
theorem natAbs_lt {x B : Int} (h1 : -B ≤ x) (h2 : x ≤ B) : (x.natAbs : Int) ≤ B := by omega
theorem mul_ab {x y X Y : Int} (hx : (x.natAbs : Int) ≤ X) (hy : (y.natAbs : Int) ≤ Y) : ((x * y).natAbs : Int) ≤ X * Y := by
  rw [Int.natAbs_mul, Int.natCast_mul]
  exact im_le hx hy (by omega) (by omega)
/-- no product is too great for a long -/
theorem row_bd (hM : MM v) (ht : a5 (fun i => v i i) ≤ 347) (hL : a5 (fun i => v i 5) ≤ 4995) (hc : c < 5) (hr : r < 5) (hrc : r ≠ c) (h : RI v n c r w) (hw : RI v n c c wc) : ∀ j, j < 6 → (w j * wc c).natAbs < 4611686018427387904 ∧ (wc j * w c).natAbs < 4611686018427387904 := by
  have hd0 := diag_1 hM
  have hP1 := prT_31 (d := fun i => v i i) hd0 ht
  have hP0 := prT_1 (d := fun i => v i i) hd0 31
  have hL0 : 0 ≤ a5 (fun i => v i 5) := by
    have : a5 (fun _ => 0) ≤ a5 (fun i => v i 5) := a5_mono (fun i hi => hM.2.2.2.1 i hi)
    exact this
  generalize hDD : (fun i => v i i) = d at hP1 hP0 ht
  have hdi : ∀ i, d i = v i i := fun i => by rw [← hDD]
  have hd : ∀ i, i < 5 → 1 ≤ d i := fun i hi => by rw [hdi]; exact hd0 i hi
  -- the product of a set and one more is part of all
  have up : ∀ T k, T < 32 → k < 5 → T.testBit k = false → d k * prT d T ≤ prT d 31 := fun T k hT hk hTk => by
    rw [← prT_top d hk hTk]
    exact prT_le (T' := 31) hd (fun i hi _ => by rcases (show i = 0 ∨ i = 1 ∨ i = 2 ∨ i = 3 ∨ i = 4 by omega) with rfl | rfl | rfl | rfl | rfl <;> decide)
  have hTr := Tcr_lt c (by omega) r hr
  have hTc := Tcr_lt c (by omega) c hc
  have tr := Tcr_r (c := c) (r := r) (by omega) hr
  have tc := Tcr_r (c := c) (r := c) (by omega) hc
  have trc : (Tcr c r).testBit c = false := by
    cases e : (Tcr c r).testBit c
    · rfl
    · have := (Tcr_in (by omega) hr (show c < 6 by omega)).1 e; omega
  have ur := up _ r hTr hr tr
  have uc := up _ c hTc hc tc
  have urc := up _ c hTr hc trc
  have hA := prT_1 (d := d) hd (Tcr c r)
  have hC := prT_1 (d := d) hd (Tcr c c)
  have hQ := prT_Q (d := d) hd ht hr hc hrc (T := Tcr c r) (fun i hi hb => by
    have h1 := (Tcr_in (by omega) hr (show i < 6 by omega)).1 hb
    omega)
  -- entries
  have bw : ∀ j, j < 5 → ((w j).natAbs : Int) ≤ prT d 31 := fun j hj => by
    have := RI_bd hM (by omega) hr h hj
    rw [hDD, ← hdi] at this
    exact Int.le_trans (natAbs_lt this.1 this.2) ur
  have bc : ∀ j, j < 5 → ((wc j).natAbs : Int) ≤ prT d 31 := fun j hj => by
    have := RI_bd hM (by omega) hc hw hj
    rw [hDD, ← hdi] at this
    exact Int.le_trans (natAbs_lt this.1 this.2) uc
  have bcc : ((wc c).natAbs : Int) ≤ d c * prT d (Tcr c c) := by
    have := RI_bd hM (by omega) hc hw hc
    rw [hDD, ← hdi] at this
    exact natAbs_lt this.1 this.2
  have bwc : ((w c).natAbs : Int) ≤ d c * prT d (Tcr c r) := by
    have h1 := RI_le hM (by omega) hr h (show c < 6 by omega) trc
    have h2 := MT_bd hM hTr hc trc hr tr
    have h3 := MT_sym hM hTr hr tr hc trc
    have h4 := (PT_pos hM _ _ (Nat.le_refl _) hTr).2
    rw [hDD] at h4
    have h5 := hd c hc
    have h6 := Int.mul_le_mul_of_nonneg_left h4 (show 0 ≤ d c by omega)
    rw [← h3, ← hdi] at h2
    omega
  have bw5 : ((w 5).natAbs : Int) ≤ prT d (Tcr c r) * 4995 := by
    have := RI_b5 hM (by omega) hr h
    rw [hDD] at this
    exact Int.le_trans (natAbs_lt this.1 this.2) (Int.mul_le_mul_of_nonneg_left hL (by omega))
  have bc5 : ((wc 5).natAbs : Int) ≤ prT d (Tcr c c) * 4995 := by
    have := RI_b5 hM (by omega) hc hw
    rw [hDD] at this
    exact Int.le_trans (natAbs_lt this.1 this.2) (Int.mul_le_mul_of_nonneg_left hL (by omega))
  have hPP : prT d 31 * prT d 31 ≤ 1700000000 * 1700000000 := im_le hP1 hP1 (by omega) (by omega)
  have hAC : prT d (Tcr c r) * (d c * prT d (Tcr c c)) ≤ 801900000000000 := Int.le_trans (Int.mul_le_mul_of_nonneg_left uc (by omega)) hQ
  intro j hj
  by_cases h5 : j < 5
  · have m1 := mul_ab (bw j h5) (bc c hc)
    have m2 := mul_ab (bc j h5) (bw c hc)
    omega
  · obtain rfl : j = 5 := by omega
    have m1 := mul_ab bw5 bcc
    have m2 := mul_ab bc5 bwc
    have e1 : prT d (Tcr c r) * 4995 * (d c * prT d (Tcr c c)) = 4995 * (prT d (Tcr c r) * (d c * prT d (Tcr c c))) := by
      rw [Int.mul_comm (prT d (Tcr c r)) 4995, Int.mul_assoc]
    have e2 : prT d (Tcr c c) * 4995 * (d c * prT d (Tcr c r)) = 4995 * (prT d (Tcr c r) * (d c * prT d (Tcr c c))) := by
      rw [Int.mul_comm (prT d (Tcr c c)) 4995, Int.mul_assoc]
      congr 1
      simp only [Int.mul_assoc, Int.mul_left_comm, Int.mul_comm]
    rw [e1] at m1
    rw [e2] at m2
    omega
/-- what is left of a row -/
theorem row_up (hM : MM v) (hc : c < 5) (hr : r < 5) (hrc : r ≠ c) (h : RI v n c r w) (hw : RI v n c c wc) {x : Nat → Int} (hx : ∀ j, j < 6 → x j = w j * wc c - wc j * w c) : gK x 6 ≠ 0 ∧ ∀ w' : Nat → Int, (∀ j, j < 6 → (gK x 6 : Int) * w' j = x j) → RI v n (c + 1) r w' := by
  have h0 := RI_up0 (w' := x) (d := 1) hM hc hr hrc h hw (by omega) (fun j hj => by rw [Int.one_mul, hx j hj])
  have hg : gK x 6 ≠ 0 := fun e => by
    have hd := gK_dvd x 6 r (by omega)
    rw [e] at hd
    exact h0.2.2.2 (Int.zero_dvd.1 hd)
  refine ⟨hg, fun w' hw' => RI_up hM hc hr hrc h hw (d := (gK x 6 : Int)) (by omega) (fun j hj => by rw [hw' j hj, hx j hj]) (gK_prim hg hw')⟩
end ROW
