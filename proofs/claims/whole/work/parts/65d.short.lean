/-! ===== at rest: a row in its shortest form ===== -/
theorem zJ_div {G w : Int} (h0 : 0 < G) (h1 : (G * w).natAbs < 9223372036854775808) (h2 : G < 9223372036854775808) : zJ (G * w) / zJ G = zJ w := by
  apply i64_eq
  have hw : w.natAbs ≤ (G * w).natAbs := by
    rw [Int.natAbs_mul]
    exact Nat.le_mul_of_pos_left _ (by omega)
  rw [Int64.toInt_div, zJ_t (by omega) (by omega), zJ_t (by omega) (by omega), zJ_t (by omega) (by omega), Int.mul_tdiv_cancel_left w (by omega), bmJ (by omega) (by omega)]
theorem gK_lt {x : Nat → Int} (hx : ∀ j, j < 6 → (x j).natAbs < 9223372036854775808) : ∀ k, k ≤ 6 → gK x k < 9223372036854775808
  | 0, _ => by show 0 < 9223372036854775808; omega
  | k + 1, hk => by
    have h1 := gK_lt hx k (by omega)
    have h2 := hx k (by omega)
    show Nat.gcd (gK x k) (x k).natAbs < _
    by_cases e : (x k).natAbs = 0
    · rw [e, Nat.gcd_zero_right]; exact h1
    · exact Nat.lt_of_le_of_lt (Nat.gcd_le_right _ (by omega)) h2
theorem m_shorten {τ : Hp} {r : Nat} (hr : r < 5) {x : Nat → Int} (hx : ∀ j, j < 6 → (x j).natAbs < 9223372036854775808) (h128 : ∀ j, j < 6 → τ.2 128 (6 * r + j) = zJ (x j)) (hg : gK x 6 ≠ 0) : ∃ τ', ∃ w : Nat → Int, f_X12_shortens (nI r) τ = some τ' ∧ frJ [128] τ τ' ∧ (∀ j, j < 6 → (gK x 6 : Int) * w j = x j) ∧ (∀ j, j < 6 → τ'.2 128 (6 * r + j) = zJ (w j)) ∧ ∀ i, i ≠ r → ∀ j, j < 6 → τ'.2 128 (6 * i + j) = τ.2 128 (6 * i + j) := by
  have hG := gK_lt hx 6 (Nat.le_refl _)
  have hdv : ∀ j, j < 6 → (gK x 6 : Int) * (x j / (gK x 6 : Int)) = x j := fun j hj => Int.mul_ediv_cancel' (gK_dvd x 6 j hj)
  unfold f_X12_shortens
  rw [jn_e, show (0 : Int64) = lN (gK x 0) from rfl]
  refine lp_d (Q := fun y => ∃ τ' : Hp, ∃ w : Nat → Int, y = some τ' ∧ frJ [128] τ τ' ∧ (∀ j, j < 6 → (gK x 6 : Int) * w j = x j) ∧ (∀ j, j < 6 → τ'.2 128 (6 * r + j) = zJ (w j)) ∧ ∀ i, i ≠ r → ∀ j, j < 6 → τ'.2 128 (6 * i + j) = τ.2 128 (6 * i + j)) 6 (fun k => (lN (gK x k), nI k)) ?_ ?_ (by omega)
  · intro k hk K
    have h1 := gK_lt hx k (by omega)
    have h2 := hx k hk
    have hl : (lN (gK x k)).toInt = (gK x k : Int) := by rw [← zJ_n]; exact zJ_t (by omega) (by omega)
    have hgc := m_gcd (a := lN (gK x k)) (b := zJ (x k)) (by rw [hl]; omega) (by rw [zJ_t (by omega) (by omega)]; omega)
    rw [hl, zJ_t (by omega) (by omega), Int.natAbs_natCast] at hgc
    unfold f_X12_shortens_l5
    dsimp only
    rw [show ∀ y z : Option Hp, (if (6 : Int32) ≤ nI k then y else z) = z from fun y z => le_f (a := 6) (by omega) (by omega), show (6 : Int32) = nI 6 from rfl, pk_mul, nI_add, ldJ_n (by omega) (by omega), h128 k hk, hgc, cr_s, lt_e, nI_1]
    rfl
  · intro K
    unfold f_X12_shortens_l5
    dsimp only
    rw [show ∀ y z : Option Hp, (if (6 : Int32) ≤ nI 6 then y else z) = y from fun y z => le_t (a := 6) (Nat.le_refl _) (by omega)]
    unfold f_X12_shortens_j35
    generalize hGe : gK x 6 = G at *
    have hl : (lN G).toInt = (G : Int) := by rw [← zJ_n]; exact zJ_t (by omega) (by omega)
    by_cases c1 : G ≤ 1
    · refine ⟨τ, x, ?_, frJ_0 _ _, fun j hj => by rw [show G = 1 by omega]; exact Int.one_mul _, h128, fun i _ j _ => rfl⟩
      obtain ⟨m, hm⟩ : ∃ m, FU = m + 1 := ⟨1099511627775, by rw [FU_e]⟩
      rw [hm, lp_succ]
      unfold f_X12_shortens_l38
      dsimp only
      rw [if_neg (show ¬ (6 : Int32) ≤ 0 by decide), if_pos ((lg_cmp_le _ _).2 (by rw [Int64.le_iff_toInt_le, hl]; show (G : Int) ≤ 1; omega))]
    · refine lp_h (Q := fun y => ∃ τ' : Hp, ∃ w : Nat → Int, y = some τ' ∧ frJ [128] τ τ' ∧ (∀ j, j < 6 → (G : Int) * w j = x j) ∧ (∀ j, j < 6 → τ'.2 128 (6 * r + j) = zJ (w j)) ∧ ∀ i, i ≠ r → ∀ j, j < 6 → τ'.2 128 (6 * i + j) = τ.2 128 (6 * i + j)) 6 (fun k ζ => frJ [128] τ ζ ∧ (∀ j, j < 6 → ζ.2 128 (6 * r + j) = zJ (if j < k then x j / (G : Int) else x j)) ∧ ∀ i, i ≠ r → ∀ j, j < 6 → ζ.2 128 (6 * i + j) = τ.2 128 (6 * i + j)) ?_ ?_ (by omega) ⟨frJ_0 _ _, fun j hj => by rw [if_neg (by omega)]; exact h128 j hj, fun i _ j _ => rfl⟩
      · rintro k ζ hk ⟨g1, g2, g3⟩ K2
        have h2 := hx k hk
        have hq : zJ (x k) / lN G = zJ (x k / (G : Int)) := by
          have := zJ_div (G := (G : Int)) (w := x k / (G : Int)) (by omega) (by rw [hdv k hk]; exact h2) (by omega)
          rw [hdv k hk, zJ_n] at this
          exact this
        refine ⟨sJ ζ 128 (6 * r + k) (zJ (x k / (G : Int))), ⟨frJ_s (by decide) g1, fun j hj => ?_, fun i hi j hj => ?_⟩, ?_⟩
        · rw [sJ_at]
          by_cases e : j = k
          · rw [if_pos ⟨rfl, by omega⟩, if_pos (by omega), e]
          · rw [if_neg (fun h => e (by omega)), g2 j hj]
            by_cases e2 : j < k
            · rw [if_pos e2, if_pos (by omega)]
            · rw [if_neg e2, if_neg (by omega)]
        · rw [sJ_at, if_neg (fun h => hi (by omega))]; exact g3 i hi j hj
        · unfold f_X12_shortens_l38
          dsimp only
          rw [show ∀ y z : Option Hp, (if (6 : Int32) ≤ nI k then y else z) = z from fun y z => le_f (a := 6) (by omega) (by omega), if_neg (fun h => c1 (by
            have := (lg_cmp_le _ _).1 h
            rw [Int64.le_iff_toInt_le, hl] at this
            have : (G : Int) ≤ 1 := this
            omega)), show (6 : Int32) = nI 6 from rfl, pk_mul, nI_add, ldJ_n (by omega) (by omega), g2 k hk, if_neg (by omega), dvJ_n (by omega) (by omega), hq, stJ_n (by omega) (by omega), lt_e, nI_1]
      · rintro ζ ⟨g1, g2, g3⟩ K2
        refine ⟨ζ, fun j => x j / (G : Int), ?_, g1, hdv, fun j hj => by rw [g2 j hj, if_pos hj], g3⟩
        unfold f_X12_shortens_l38
        dsimp only
        rw [show ∀ y z : Option Hp, (if (6 : Int32) ≤ nI 6 then y else z) = y from fun y z => le_t (a := 6) (Nat.le_refl _) (by omega)]
