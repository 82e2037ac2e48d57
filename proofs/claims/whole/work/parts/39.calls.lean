theorem GS_lt {pl : Nat → Nat → Nat} {B : Nat} {x : GS} (h : NI pl B x) (hB : B < 700000000) : (∀ k, k < 15 → x.1.1 k < 700000000) ∧ (∀ k, k < 15 → x.2.1 k < 700000000) ∧ (∀ k, k < 24 → x.1.2 k < 700000000) ∧ ∀ k, k < 3 → x.2.2.1 k < 700000000 :=
  ⟨fun k hk => by have := KN_a h.1.1 hk; omega, fun k hk => by have := KN_w h.1.1 hk; omega, fun k hk => by have := KN_t h.1.1 hk; omega, fun k hk => by have := (h.1.1 k hk).2; omega⟩
theorem lt3 {c : Int32} (h : 0 ≤ c.toInt ∧ c.toInt < 3) : c = 0 ∨ c = 1 ∨ c = 2 := by
  have e := n_of h.1
  generalize hj : c.toInt.toNat = j at e
  subst e
  rcases (by omega : j = 0 ∨ j = 1 ∨ j = 2) with rfl | rfl | rfl
  · exact Or.inl rfl
  · exact Or.inr (Or.inl rfl)
  · exact Or.inr (Or.inr rfl)
theorem st_in (n : Nat) (hn : n < 512) (a b c : Int32) {σ τ : Hp} (h : RR n σ τ) : Ok32 n (f_X11_in a b c σ) (f_X12_in a b c τ) := by
  obtain ⟨hr, hr0, hr5⟩ := rr_rooms h
  simp only [f_X11_in_j95, f_X11_in_j92, f_X11_in_j41, f_X11_in_j28, f_X11_in_j23, f_X11_in, f_X12_in_j15, f_X12_in_j80, f_X12_in, f_X4_amount_j27, f_X4_amount, jn_e, lt_e, k_within, k_isIn, k_isGas, k_isRoom, k_isPipe, k_isPump, k_out, cl_s, cr_s, rf_1, rf_2, rf_4, rf_6, rf_0, e_no1, e_no2, e_no3, e_no4, e_no6, e_no7, e_refuse1, e_refuse2, e_refuse3, e_refuse4, e_refuse6, e_refuse7, n1z, n2z, n3z, n4z, n6z, z0z, z1z, i32_lt, i32_le, Int.reduceAdd, Int.reduceSub, if_true, if_false, hr, l_0, l_3, d_0, d_2, ile]
  by_cases h1 : 0 ≤ a.toInt ∧ a.toInt < (σ.1 1 0).toInt
  · simp only [if_pos h1]
    by_cases h2 : 0 ≤ b.toInt ∧ b.toInt < 3
    · simp only [if_pos h2]
      by_cases h3 : 0 ≤ c.toInt ∧ c.toInt < 3
      · simp only [if_pos h3]
        obtain ⟨hB, hC, hM⟩ := RR_pl h
        obtain ⟨x, k, u0, u1, u2, gc, gm, ni, ou, wn, hz⟩ := RR_gs h
        obtain ⟨l1, l2, l3, l4⟩ := GS_lt ni (by omega)
        have ea := n_of h1.1
        have eb := n_of h2.1
        generalize hra : a.toInt.toNat = r at ea
        generalize hrb : b.toInt.toNat = g at eb
        have q1 : r < plN σ 1 0 := by show r < (σ.1 1 0).toInt.toNat; omega
        subst ea eb
        have hb0 := hB.1.1
        obtain ⟨g1, g2, g3, g4, g5⟩ := gc
        obtain ⟨m1, m2, m3, m4, m5⟩ := gm
        have g1 : σ.1 14 = nrow x.1.1 := g1
        have g2 : σ.1 15 = nrow x.2.1 := g2
        have i1 : nI r * 3 + nI g = nI (3 * r + g) := by rw [n_3, pk_mul, nI_add, Nat.mul_comm r 3]
        have i2 : 3 * nI r + nI g = nI (3 * r + g) := by rw [n_3, pk_mul, nI_add]
        have hg3 : g < 3 := by omega
        rcases lt3 h3 with rfl | rfl | rfl
        · simp (disch := omega) only [i1, i2, show ¬ ((0 : Int32) = 2) by decide, show ¬ ((0 : Int32) = 1) by decide, if_true, if_false, ldI_n, g1, m1, Nat.reduceAdd]
          exact ⟨_, _, _, rfl, rfl, RR_same h⟩
        · simp (disch := omega) only [i1, i2, show ¬ ((1 : Int32) = 2) by decide, show ¬ ((1 : Int32) = 0) by decide, if_true, if_false, ldI_n, g2, m2, Nat.reduceAdd]
          exact ⟨_, _, _, rfl, rfl, RR_same h⟩
        · simp (disch := omega) only [show ¬ ((2 : Int32) = 0) by decide, show ¬ ((2 : Int32) = 1) by decide, if_true, if_false, c_push13 hB hC g1 l1 q1, m_push hB hM m1 l1 q1, cr_s]
          exact ⟨_, _, _, rfl, rfl, RR_same h⟩
      · simp only [if_neg h3]; exact ok_ref h
    · simp only [if_neg h2, ite_self]; exact ok_ref h
  · simp only [if_neg h1, ite_self]; exact ok_ref h
theorem st_pumpOf (n : Nat) (hn : n < 512) (a b : Int32) {σ τ : Hp} (h : RR n σ τ) : Ok32 n (f_X11_pumpOf a b σ) (f_X12_pumpOf a b τ) := by
  obtain ⟨hq, hq0, hq5⟩ := rr_pumps h
  simp only [f_X11_pumpOf_j111, f_X11_pumpOf_j34, f_X11_pumpOf_j20, f_X11_pumpOf, f_X12_pumpOf_j102, f_X12_pumpOf, jn_e, lt_e, k_within, k_isIn, k_isGas, k_isRoom, k_isPipe, k_isPump, k_out, cl_s, cr_s, rf_1, rf_2, rf_4, rf_6, rf_0, e_no1, e_no2, e_no3, e_no4, e_no6, e_no7, e_refuse1, e_refuse2, e_refuse3, e_refuse4, e_refuse6, e_refuse7, n1z, n2z, n3z, n4z, n6z, z0z, z1z, i32_lt, i32_le, Int.reduceAdd, Int.reduceSub, if_true, if_false, hq, l_0, l_6, d_0, d_5, ile]
  by_cases h1 : 0 ≤ a.toInt ∧ a.toInt < (σ.1 1 11).toInt
  · simp only [if_pos h1]
    by_cases h2 : 0 ≤ b.toInt ∧ b.toInt < 6
    · simp only [if_pos h2]
      obtain ⟨hB, hC, hM⟩ := RR_pl h
      obtain ⟨x, k, u0, u1, u2, gc, gm, ni, ou, wn, hz⟩ := RR_gs h
      obtain ⟨l1, l2, l3, l4⟩ := GS_lt ni (by omega)
      have ea := n_of h1.1
      generalize hra : a.toInt.toNat = p at ea
      have q1 : p < plN σ 1 11 := by show p < (σ.1 1 11).toInt.toNat; omega
      subst ea
      have hb0 := hB.1.2.2.1
      obtain ⟨g1, g2, g3, g4, g5⟩ := gc
      obtain ⟨m1, m2, m3, m4, m5⟩ := gm
      have g3 : σ.1 16 = nrow x.1.2 := g3
      have ni2 : x.2.2.2 < 2 ^ 8 := ni.2
      have i1 : nI p * 3 + b - 1 = 3 * nI p + b - 1 := by rw [Int32.mul_comm]
      by_cases e0 : b = 0
      · simp (disch := omega) only [if_pos e0, hC.1.2.2.2.2, ldI_n, hM.1.2.2.2.2, bN_0, bitC (show plN σ 1 15 < 2147483648 by have := hB.1.2.2.2.2; omega) (show p < 31 by omega)]
        refine ⟨_, _, _, rfl, ?_, RR_same h⟩
        cases (plN σ 1 15).testBit p <;> rfl
      by_cases e4 : b = 4
      · simp (disch := omega) only [if_neg e0, if_pos e4, g5, ldI_n, m5, bN_0, bitC (show x.2.2.2 < 2147483648 by omega) (show p < 31 by omega)]
        refine ⟨_, _, _, rfl, ?_, RR_same h⟩
        cases x.2.2.2.testBit p <;> rfl
      by_cases e5 : b = 5
      · simp (disch := omega) only [if_neg e0, if_neg e4, if_pos e5, ldI_n, hC.2.2.2.2.2.2.2.2.2.2.2, hM.2.2.2.2.2.2.2.2.2.2.2]
        exact ⟨_, _, _, rfl, rfl, RR_same h⟩
      · have eb := n_of h2.1
        generalize hrb : b.toInt.toNat = j at eb
        subst eb
        have j0 : j ≠ 0 := fun e => e0 (by rw [e]; rfl)
        have j4 : j ≠ 4 := fun e => e4 (by rw [e]; rfl)
        have j5 : j ≠ 5 := fun e => e5 (by rw [e]; rfl)
        have i2 : 3 * nI p + nI j - 1 = nI (3 * p + (j - 1)) := by
          rw [n_3, pk_mul, nI_add, n_1, pk_sub (by omega)]
          congr 1
          omega
        simp only [if_neg e0, if_neg e4, if_neg e5, i1, i2]
        rw [ldI_n (by omega) (by omega), ldI_n (by omega) (by omega), g3, m3]
        exact ⟨_, _, _, rfl, rfl, RR_same h⟩
    · simp only [if_neg h2]; exact ok_ref h
  · simp only [if_neg h1, ite_self]; exact ok_ref h
/-- a sum over rooms -/
def smN (a : Nat → Nat) (g : Nat) : Nat → Nat
  | 0 => 0
  | r + 1 => smN a g r + a (3 * r + g)
/-- a sum over pumps with a limit (b), without -/
def spN (pl : Nat → Nat → Nat) (t : Nat → Nat) (g : Nat) (b : Bool) : Nat → Nat
  | 0 => 0
  | p + 1 => spN pl t g b p + (if decide (0 < pl 12 p) = b then t (3 * p + g) else 0)
theorem spN_ou (pl : Nat → Nat → Nat) (t : Nat → Nat) (g : Nat) : ∀ p, spN pl t g false p = ouN pl t g p
  | 0 => rfl
  | p + 1 => by
    show spN pl t g false p + (if decide (0 < pl 12 p) = false then t (3 * p + g) else 0) = ouN pl t g p + (if pl 12 p = 0 then t (3 * p + g) else 0)
    rw [spN_ou pl t g p]
    by_cases h : pl 12 p = 0
    · rw [if_pos h, if_pos (decide_eq_false (by omega))]
    · rw [if_neg h, if_neg (by rw [decide_eq_true (show 0 < pl 12 p by omega)]; decide)]
theorem c_rooms {pl : Nat → Nat → Nat} (hB : PB pl) {σ : Hp} (hP : PC σ pl) {x : GS} (gc : GC 13 σ x) {g : Nat} (hg : g < 3) {w : Int32} (hw : w = 2 ∨ w = 3) : lp (f_X4_total_l27 13 (nI g) w σ) FU ((0 : Int32), (0 : Int32)) = some (nI (smN (if w = 3 then x.2.1 else x.1.1) g (pl 1 0))) := by
  have hb := hB.1.1
  obtain ⟨g1, g2, g3, g4, g5⟩ := gc
  have g1 : σ.1 14 = nrow x.1.1 := g1
  have g2 : σ.1 15 = nrow x.2.1 := g2
  refine lp_d (Q := fun y => y = some (nI (smN (if w = 3 then x.2.1 else x.1.1) g (pl 1 0)))) (pl 1 0) (fun r => (nI (smN (if w = 3 then x.2.1 else x.1.1) g r), nI r)) ?_ ?_ (by omega)
  · intro r hr K
    rcases hw with rfl | rfl
    · simp (disch := omega) only [f_X4_total_l27, f_X4_total_j52, f_X4_amount, f_X4_amount_j27, jn_e, lt_e, hP.1.1, le_f, show ¬ ((2 : Int32) = 3) by decide, if_false, if_true, n_3, pk_mul, nI_add, Nat.mul_comm r 3, Nat.reduceAdd, ldI_n, g1, nrow_at, cr_s, nI_1]
      rfl
    · simp (disch := omega) only [f_X4_total_l27, f_X4_total_j52, f_X4_amount, f_X4_amount_j27, jn_e, lt_e, hP.1.1, le_f, if_false, if_true, n_3, pk_mul, nI_add, Nat.mul_comm r 3, Nat.reduceAdd, ldI_n, g2, nrow_at, cr_s, nI_1, show ¬ ((1 : Int32) = 0) by decide]
      rfl
  · intro K
    simp (disch := omega) only [f_X4_total_l27, hP.1.1, le_t]
theorem c_pumpsum {pl : Nat → Nat → Nat} (hB : PB pl) {σ : Hp} (hP : PC σ pl) {x : GS} (gc : GC 13 σ x) {g : Nat} (hg : g < 3) {w : Int32} (hw : w = 1 ∨ w = 4) : lp (f_X4_total_l70 13 (nI g) w σ) FU ((0 : Int32), (0 : Int32)) = some (nI (spN pl x.1.2 g (decide (w = 4)) (pl 1 11))) := by
  have hb := hB.1.2.2.1
  obtain ⟨g1, g2, g3, g4, g5⟩ := gc
  have g3 : σ.1 16 = nrow x.1.2 := g3
  refine lp_d (Q := fun y => y = some (nI (spN pl x.1.2 g (decide (w = 4)) (pl 1 11)))) (pl 1 11) (fun p => (nI (spN pl x.1.2 g (decide (w = 4)) p), nI p)) ?_ ?_ (by omega)
  · intro p hp K
    have hl := hB.2.2.2.2.2.2.2.2.2 p
    have hld : σ.1 12 p = nI (pl 12 p) := hP.2.2.2.2.2.2.2.2.2.2.2 p
    by_cases e : 0 < pl 12 p
    · rcases hw with rfl | rfl
      · simp (disch := omega) only [f_X4_total_l70, f_X4_total_j94, f_X4_total_j110, f_X4_total_j128, jn_e, lt_e, hP.1.2.2.1, n_0, le_f, ldI_n, hld, show ¬ ((1 : Int32) = 4) by decide, if_false, show ¬ ((1 : Int32) = nI 0) by decide, nI_1, nI_add, spN, decide_eq_true e, decide_false, Bool.true_eq_false]
      · simp (disch := omega) only [f_X4_total_l70, f_X4_total_j94, f_X4_total_j110, f_X4_total_j128, jn_e, lt_e, hP.1.2.2.1, n_0, n_3, le_f, ldI_n, hld, if_true, nI_1, nI_add, pk_mul, Nat.mul_comm p 3, Nat.reduceAdd, g3, nrow_at, spN, decide_eq_true e, decide_true]
    · rcases hw with rfl | rfl
      · simp (disch := omega) only [f_X4_total_l70, f_X4_total_j94, f_X4_total_j110, f_X4_total_j128, jn_e, lt_e, hP.1.2.2.1, n_0, n_3, le_f, le_t, ldI_n, hld, show ¬ ((1 : Int32) = 4) by decide, if_false, if_true, nI_1, nI_add, pk_mul, Nat.mul_comm p 3, Nat.reduceAdd, g3, nrow_at, spN, decide_eq_false e, decide_false]
      · simp (disch := omega) only [f_X4_total_l70, f_X4_total_j94, f_X4_total_j110, f_X4_total_j128, jn_e, lt_e, hP.1.2.2.1, n_0, le_f, le_t, ldI_n, hld, if_true, if_false, show ¬ (nI 0 = (1 : Int32)) by decide, nI_1, nI_add, spN, decide_eq_false e, decide_true, Bool.false_eq_true]
  · intro K
    simp (disch := omega) only [f_X4_total_l70, hP.1.2.2.1, le_t]
theorem m_sums {pl : Nat → Nat → Nat} (hB : PB pl) {τ : Hp} (hP : PM τ pl) {x : GS} (gm : GM τ x) {g : Nat} (hg : g < 3) {w : Int32} (hw : w = 2 ∨ w = 3) : lp (f_X12_all_l62 (nI g) w τ (f_X12_all_j115 (nI g) w τ)) FU ((0 : Int32), (0 : Int32)) = some (nI (smN (if w = 3 then x.2.1 else x.1.1) g (pl 1 0)), τ) := by
  have hb := hB.1.1
  obtain ⟨g1, g2, g3, g4, g5⟩ := gm
  have e4 : ¬ ((4 : Int32) ≤ w) := by rcases hw with rfl | rfl <;> decide
  have e5 : ¬ (w = 4) := by rcases hw with rfl | rfl <;> decide
  refine lp_d (Q := fun y => y = some (nI (smN (if w = 3 then x.2.1 else x.1.1) g (pl 1 0)), τ)) (pl 1 0) (fun r => (nI (smN (if w = 3 then x.2.1 else x.1.1) g r), nI r)) ?_ ?_ (by omega)
  · intro r hr K
    rcases hw with rfl | rfl
    · simp (disch := omega) only [f_X12_all_l62, f_X12_all_j107, jn_e, lt_e, hP.1.1, le_f, if_neg e4, show ¬ ((2 : Int32) = 3) by decide, if_false, if_true, n_3, pk_mul, nI_add, ldI_n, g1, nrow_at, nI_1]
      rfl
    · simp (disch := omega) only [f_X12_all_l62, f_X12_all_j107, jn_e, lt_e, hP.1.1, le_f, if_neg e4, show ¬ ((3 : Int32) = 2) by decide, if_false, if_true, ldI_n, g2, nrow_at, nI_1]
      have i1 : (3 : Int32) * nI r + nI g = nI (3 * r + g) := by rw [n_3, pk_mul, nI_add]
      rw [i1, ldI_n (by omega) (by omega), g2, nrow_at, nI_add]
      rfl
  · intro K
    simp (disch := omega) only [f_X12_all_l62, hP.1.1, le_t, f_X12_all_j115]
    rw [FU_e, show (1099511627776 : Nat) = 1099511627775 + 1 from rfl, lp_succ]
    simp only [f_X12_all_l118, if_neg e5]
    split <;> rfl
theorem m_traps {pl : Nat → Nat → Nat} (hB : PB pl) {τ : Hp} (hP : PM τ pl) {x : GS} (gm : GM τ x) {g : Nat} (hg : g < 3) : lp (f_X12_all_l62 (nI g) 4 τ (f_X12_all_j115 (nI g) 4 τ)) FU ((0 : Int32), (0 : Int32)) = some (nI (spN pl x.1.2 g true (pl 1 11)), τ) := by
  have hb := hB.1.2.2.1
  obtain ⟨g1, g2, g3, g4, g5⟩ := gm
  rw [FU_e, show (1099511627776 : Nat) = 1099511627775 + 1 from rfl, lp_succ]
  generalize lp (f_X12_all_l62 (nI g) 4 τ (f_X12_all_j115 (nI g) 4 τ)) 1099511627775 = K0
  have e0 : f_X12_all_l62 (nI g) 4 τ (f_X12_all_j115 (nI g) 4 τ) K0 ((0 : Int32), (0 : Int32)) = lp (f_X12_all_l118 (nI g) 4 τ) FU ((0 : Int32), (0 : Int32)) := by
    simp only [f_X12_all_l62, f_X12_all_j115, show (4 : Int32) ≤ 4 by decide, if_true, ite_self]
  rw [e0]
  refine lp_d (Q := fun y => y = some (nI (spN pl x.1.2 g true (pl 1 11)), τ)) (pl 1 11) (fun p => (nI (spN pl x.1.2 g true p), nI p)) ?_ ?_ (by omega)
  · intro p hp K
    have hl := hB.2.2.2.2.2.2.2.2.2 p
    have hld : τ.1 97 p = nI (pl 12 p) := hP.2.2.2.2.2.2.2.2.2.2.2 p
    by_cases e : 0 < pl 12 p
    · simp (disch := omega) only [f_X12_all_l118, f_X12_all_j158, jn_e, lt_e, hP.1.2.2.1, n_0, n_3, le_f, ldI_n, hld, if_true, nI_1, nI_add, pk_mul, g3, nrow_at, spN, decide_eq_true e]
    · simp (disch := omega) only [f_X12_all_l118, f_X12_all_j158, jn_e, lt_e, hP.1.2.2.1, n_0, n_3, le_f, le_t, ldI_n, hld, if_true, if_false, nI_1, nI_add, spN, decide_eq_false e, Bool.false_eq_true]
  · intro K
    simp (disch := omega) only [f_X12_all_l118, hP.1.2.2.1, le_t]
theorem st_all (n : Nat) (hn : n < 512) (a b : Int32) {σ τ : Hp} (h : RR n σ τ) : Ok32 n (f_X11_all a b σ) (f_X12_all a b τ) := by
  simp only [f_X11_all, f_X11_all_j54, f_X11_all_j27, f_X11_all_j14, f_X12_all, jn_e, lt_e, k_within, k_isIn, k_isGas, k_isRoom, k_isPipe, k_isPump, k_out, cl_s, cr_s, rf_1, rf_2, rf_4, rf_6, rf_0, e_no1, e_no2, e_no3, e_no4, e_no6, e_no7, e_refuse1, e_refuse2, e_refuse3, e_refuse4, e_refuse6, e_refuse7, n1z, n2z, n3z, n4z, n6z, z0z, z1z, i32_lt, i32_le, Int.reduceAdd, Int.reduceSub, if_true, if_false, l_0, l_3, l_5, d_0, d_4, ile]
  by_cases h1 : 0 ≤ a.toInt ∧ a.toInt < 3
  · simp only [if_pos h1]
    by_cases h2 : 0 ≤ b.toInt ∧ b.toInt < 5
    · simp only [if_pos h2]
      obtain ⟨hB, hC, hM⟩ := RR_pl h
      obtain ⟨x, k, u0, u1, u2, gc, gm, ni, ou, wn, hz⟩ := RR_gs h
      have ea := n_of h1.1
      generalize hra : a.toInt.toNat = g at ea
      have hg : g < 3 := by omega
      subst ea
      have eb := n_of h2.1
      generalize hrb : b.toInt.toNat = j at eb
      have hj : j < 5 := by omega
      subst eb
      have hr := RR_same h
      have G4 : σ.1 17 = nrow x.2.2.1 := gc.2.2.2.1
      rcases (by omega : j = 0 ∨ j = 1 ∨ j = 2 ∨ j = 3 ∨ j = 4) with rfl | rfl | rfl | rfl | rfl
      · refine ⟨nI (x.2.2.1 g), σ, τ, ?_, ?_, hr⟩
        · unfold f_X4_total
          rw [show nI 0 = (0 : Int32) from rfl, if_pos rfl, show 13 + 4 = 17 from rfl, ldI_n hg (by omega), G4]
          rfl
        · unfold f_X12_all_j56
          simp only [show ¬ ((2 : Int32) ≤ nI 0) by decide, show nI 0 = (0 : Int32) from rfl, l_2, l_0, jn_e, if_true]
          rw [ldI_n hg (by omega), gm.2.2.2.1]
          rfl
      · refine ⟨nI (ouN (plN σ) x.1.2 g (plN σ 1 11)), σ, τ, ?_, ?_, hr⟩
        · have hs := c_pumpsum hB hC gc hg (w := 1) (Or.inl rfl)
          rw [show decide ((1 : Int32) = 4) = false by decide, spN_ou] at hs
          unfold f_X4_total
          simp only [show nI 1 = (1 : Int32) from rfl, show ¬ ((1 : Int32) = 0) by decide, show ¬ ((1 : Int32) = 2) by decide, show ¬ ((1 : Int32) = 3) by decide, if_false, jn_e, hs, cr_s]
        · unfold f_X12_all_j56
          simp only [show ¬ ((2 : Int32) ≤ nI 1) by decide, show nI 1 = (1 : Int32) from rfl, l_2, l_1, jn_e, if_true, show ¬ ((1 : Int32) = 0) by decide, if_false, show (1 : Int) < 2 by decide]
          rw [ldI_n hg (by omega), ou g hg]
      · refine ⟨nI (smN x.1.1 g (plN σ 1 0)), σ, τ, ?_, ?_, hr⟩
        · have hs := c_rooms hB hC gc hg (w := 2) (Or.inl rfl)
          rw [if_neg (by decide)] at hs
          unfold f_X4_total f_X4_total_j24
          simp only [show nI 2 = (2 : Int32) from rfl, show ¬ ((2 : Int32) = 0) by decide, if_true, if_false, jn_e, hs, cr_s]
        · have hs := m_sums hB hM gm hg (w := 2) (Or.inl rfl)
          rw [if_neg (by decide)] at hs
          simp only [show nI 2 = (2 : Int32) from rfl, l_2, show ¬ ((2 : Int) < 2) by decide, if_false, jn_e]
          exact hs
      · refine ⟨nI (smN x.2.1 g (plN σ 1 0)), σ, τ, ?_, ?_, hr⟩
        · have hs := c_rooms hB hC gc hg (w := 3) (Or.inr rfl)
          rw [if_pos rfl] at hs
          unfold f_X4_total f_X4_total_j24
          simp only [show nI 3 = (3 : Int32) from rfl, show ¬ ((3 : Int32) = 0) by decide, show ¬ ((3 : Int32) = 2) by decide, if_true, if_false, jn_e, hs, cr_s]
        · have hs := m_sums hB hM gm hg (w := 3) (Or.inr rfl)
          rw [if_pos rfl] at hs
          simp only [show nI 3 = (3 : Int32) from rfl, l_2, l_3, show ¬ ((3 : Int) < 2) by decide, if_false, jn_e]
          exact hs
      · refine ⟨nI (spN (plN σ) x.1.2 g true (plN σ 1 11)), σ, τ, ?_, ?_, hr⟩
        · have hs := c_pumpsum hB hC gc hg (w := 4) (Or.inr rfl)
          rw [show decide ((4 : Int32) = 4) = true by decide] at hs
          unfold f_X4_total
          simp only [show nI 4 = (4 : Int32) from rfl, show ¬ ((4 : Int32) = 0) by decide, show ¬ ((4 : Int32) = 2) by decide, show ¬ ((4 : Int32) = 3) by decide, if_false, jn_e, hs, cr_s]
        · have hs := m_traps hB hM gm hg
          simp only [show nI 4 = (4 : Int32) from rfl, l_2, l_4, show ¬ ((4 : Int) < 2) by decide, if_false, jn_e]
          exact hs
    · simp only [if_neg h2]; exact ok_ref h
  · simp only [if_neg h1, ite_self]; exact ok_ref h
