theorem c_off13 {pl : Nat → Nat → Nat} (hB : PB pl) {σ : Hp} (hP : PC σ pl) {a w : Nat → Nat} (ha : σ.1 14 = nrow a) (hw : σ.1 15 = nrow w) (hb : ∀ k, k < 15 → w k < 2147483648) : ∃ σ', f_X4_giveOff 13 σ = some σ' ∧ σ'.1 14 = nrow (aO pl w a (3 * pl 1 0)) ∧ σ'.1 15 = nrow (wO pl w (3 * pl 1 0)) ∧ fr [14, 15] σ σ' := by
  obtain ⟨⟨b1, b2, b3, b4, b5⟩, b6, b7, b8, b9, b10, b11, b12, b13, b14⟩ := id hB
  unfold f_X4_giveOff
  refine lp_h (Q := fun r => ∃ σ', r = some σ' ∧ σ'.1 14 = nrow (aO pl w a (3 * pl 1 0)) ∧ σ'.1 15 = nrow (wO pl w (3 * pl 1 0)) ∧ fr [14, 15] σ σ') (pl 1 0) (fun r τ => τ.1 14 = nrow (aO pl w a (3 * r)) ∧ τ.1 15 = nrow (wO pl w (3 * r)) ∧ fr [14, 15] σ τ) ?_ ?_ (by omega) ⟨by rw [ha, Nat.mul_zero, aO_0], by rw [hw, Nat.mul_zero, wO_0], fr_0 _ _⟩
  · rintro r τ hr ⟨h1, h2, h3⟩ K
    have hP' : PC τ pl := PC_fr (by decide) h3 hP
    obtain ⟨⟨e1, e2, e3, e4, e5⟩, e6, e7, e8, e9, e10, e11, e12, e13, e14, e15, e16⟩ := id hP'
    have m3 := b7 r
    have m4 := b8 r
    simp (disch := omega) only [f_X4_giveOff_l2, f_X5_givenShare, jn_e, lt_e, e1, le_f, ldI_n, e7, e8, e9, n_3, n_10, pk_mul, nI_add, cr_s]
    rw [Nat.mul_comm r 3]
    refine lp_hf (Q := fun x => ∃ σ', (σ'.1 14 = nrow (aO pl w a (3 * (r + 1))) ∧ σ'.1 15 = nrow (wO pl w (3 * (r + 1))) ∧ fr [14, 15] σ σ') ∧ x = K (nI (r + 1), σ')) (3 * r) (3 * r + 3) (fun q ρ => ρ.1 14 = nrow (aO pl w a q) ∧ ρ.1 15 = nrow (wO pl w q) ∧ fr [14, 15] σ ρ) ?_ ?_ (by omega) (by omega) ⟨h1, h2, h3⟩
    · rintro q ρ hq0 hq1 ⟨g2, g3, g4⟩ K2
      have hw1 := hb q (by omega)
      have hs := shN_le hB w q
      have hg : pl 5 (pl 3 r * 10 + pl 4 r) < 2147483648 := by have := b9 (pl 3 r * 10 + pl 4 r); omega
      have hq : q / 3 = r := by omega
      have hsh : w q * pl 5 (pl 3 r * 10 + pl 4 r) / 1000 = shN pl w q := by unfold shN gvN; rw [hq]
      refine ⟨sI (sI ρ 15 q (nI (w q - shN pl w q))) 14 q (nI (a q + shN pl w q)), ⟨?_, ?_, fr_s (by decide) (fr_s (by decide) g4)⟩, ?_⟩
      · show upd (ρ.1 14) _ _ = _
        rw [g2, upd_nrow, aO_un]
      · show upd (ρ.1 15) _ _ = _
        rw [g3, upd_nrow, wO_un]
      · simp (disch := omega) only [f_X4_giveOff_l21, lt_e, n_3, n_1, L_1000, pk_mul, nI_add, le_f, Nat.reduceAdd, ldI_n, stI_n, g2, g3, nrow_at, wO_at, aO_at, sI_1, reduceIte, Nat.reduceEqDiff, dvJ_n, shC, hsh, lN_i, pk_sub]
    · rintro ρ ⟨g2, g3, g4⟩ K2
      refine ⟨ρ, ⟨g2, g3, g4⟩, ?_⟩
      simp (disch := omega) only [f_X4_giveOff_l21, f_X4_giveOff_j79, lt_e, n_3, n_1, pk_mul, nI_add, le_t]
  · rintro τ ⟨h1, h2, h3⟩ K
    refine ⟨τ, ?_, h1, h2, h3⟩
    have hP' : PC τ pl := PC_fr (by decide) h3 hP
    simp (disch := omega) only [f_X4_giveOff_l2, hP'.1.1, le_t]
theorem c_off19 {pl : Nat → Nat → Nat} (hB : PB pl) {σ : Hp} (hP : PC σ pl) {a w : Nat → Nat} (ha : σ.1 20 = nrow a) (hw : σ.1 21 = nrow w) (hb : ∀ k, k < 15 → w k < 2147483648) : ∃ σ', f_X4_giveOff 19 σ = some σ' ∧ σ'.1 20 = nrow (aO pl w a (3 * pl 1 0)) ∧ σ'.1 21 = nrow (wO pl w (3 * pl 1 0)) ∧ fr [20, 21] σ σ' := by
  obtain ⟨⟨b1, b2, b3, b4, b5⟩, b6, b7, b8, b9, b10, b11, b12, b13, b14⟩ := id hB
  unfold f_X4_giveOff
  refine lp_h (Q := fun r => ∃ σ', r = some σ' ∧ σ'.1 20 = nrow (aO pl w a (3 * pl 1 0)) ∧ σ'.1 21 = nrow (wO pl w (3 * pl 1 0)) ∧ fr [20, 21] σ σ') (pl 1 0) (fun r τ => τ.1 20 = nrow (aO pl w a (3 * r)) ∧ τ.1 21 = nrow (wO pl w (3 * r)) ∧ fr [20, 21] σ τ) ?_ ?_ (by omega) ⟨by rw [ha, Nat.mul_zero, aO_0], by rw [hw, Nat.mul_zero, wO_0], fr_0 _ _⟩
  · rintro r τ hr ⟨h1, h2, h3⟩ K
    have hP' : PC τ pl := PC_fr (by decide) h3 hP
    obtain ⟨⟨e1, e2, e3, e4, e5⟩, e6, e7, e8, e9, e10, e11, e12, e13, e14, e15, e16⟩ := id hP'
    have m3 := b7 r
    have m4 := b8 r
    simp (disch := omega) only [f_X4_giveOff_l2, f_X5_givenShare, jn_e, lt_e, e1, le_f, ldI_n, e7, e8, e9, n_3, n_10, pk_mul, nI_add, cr_s]
    rw [Nat.mul_comm r 3]
    refine lp_hf (Q := fun x => ∃ σ', (σ'.1 20 = nrow (aO pl w a (3 * (r + 1))) ∧ σ'.1 21 = nrow (wO pl w (3 * (r + 1))) ∧ fr [20, 21] σ σ') ∧ x = K (nI (r + 1), σ')) (3 * r) (3 * r + 3) (fun q ρ => ρ.1 20 = nrow (aO pl w a q) ∧ ρ.1 21 = nrow (wO pl w q) ∧ fr [20, 21] σ ρ) ?_ ?_ (by omega) (by omega) ⟨h1, h2, h3⟩
    · rintro q ρ hq0 hq1 ⟨g2, g3, g4⟩ K2
      have hw1 := hb q (by omega)
      have hs := shN_le hB w q
      have hg : pl 5 (pl 3 r * 10 + pl 4 r) < 2147483648 := by have := b9 (pl 3 r * 10 + pl 4 r); omega
      have hq : q / 3 = r := by omega
      have hsh : w q * pl 5 (pl 3 r * 10 + pl 4 r) / 1000 = shN pl w q := by unfold shN gvN; rw [hq]
      refine ⟨sI (sI ρ 21 q (nI (w q - shN pl w q))) 20 q (nI (a q + shN pl w q)), ⟨?_, ?_, fr_s (by decide) (fr_s (by decide) g4)⟩, ?_⟩
      · show upd (ρ.1 20) _ _ = _
        rw [g2, upd_nrow, aO_un]
      · show upd (ρ.1 21) _ _ = _
        rw [g3, upd_nrow, wO_un]
      · simp (disch := omega) only [f_X4_giveOff_l21, lt_e, n_3, n_1, L_1000, pk_mul, nI_add, le_f, Nat.reduceAdd, ldI_n, stI_n, g2, g3, nrow_at, wO_at, aO_at, sI_1, reduceIte, Nat.reduceEqDiff, dvJ_n, shC, hsh, lN_i, pk_sub]
    · rintro ρ ⟨g2, g3, g4⟩ K2
      refine ⟨ρ, ⟨g2, g3, g4⟩, ?_⟩
      simp (disch := omega) only [f_X4_giveOff_l21, f_X4_giveOff_j79, lt_e, n_3, n_1, pk_mul, nI_add, le_t]
  · rintro τ ⟨h1, h2, h3⟩ K
    refine ⟨τ, ?_, h1, h2, h3⟩
    have hP' : PC τ pl := PC_fr (by decide) h3 hP
    simp (disch := omega) only [f_X4_giveOff_l2, hP'.1.1, le_t]
theorem sh_le {x w z : Nat} (hw : w ≤ 9) (hz : 1 ≤ z) : x * w / (100 * z) ≤ x := by
  have h3 : x * w ≤ x * (100 * z) := Nat.mul_le_mul_left _ (by omega)
  exact Nat.div_le_of_le_mul (by rw [Nat.mul_comm (100 * z)]; exact h3)
theorem minL {x y : Nat} (hx : x < 9223372036854775808) (hy : y < 9223372036854775808) : (if lN x < lN y then lN x else lN y) = lN (min x y) := by
  by_cases h : x < y
  · rw [if_pos ((pk_lLT hx hy).2 h), Nat.min_eq_left (by omega)]
  · rw [if_neg (fun h2 => h ((pk_lLT hx hy).1 h2)), Nat.min_eq_right (by omega)]
theorem shL {a b c : Nat} (ha : a < 2147483648) (hb : b < 2147483648) (h0 : 0 < c) (hc : c < 2147483648) : (lN a * lN b) / lN c = lN (a * b / c) := by
  rw [← nI_l (show a < 2 ^ 31 by omega), ← nI_l (show b < 2 ^ 31 by omega)]
  exact shC ha hb h0 hc
theorem c_dv {pl : Nat → Nat → Nat} (hB : PB pl) {σ : Hp} (hP : PC σ pl) {r : Nat} (hr : r < pl 1 0) : f_X5_divisor (nI r) σ = some (lN (pl 2 r)) := by
  have h1 := hB.2.1 r hr
  have h0 := hB.1.1
  unfold f_X5_divisor f_X5_divisor_j20
  simp (disch := omega) only [jn_e, ldI_n, hP.2.1, n_0, le_f, nI_l]
theorem c_leak13 {pl : Nat → Nat → Nat} (hB : PB pl) {σ : Hp} (hP : PC σ pl) {a d : Nat → Nat} (ha : σ.1 14 = nrow a) (hd : σ.1 17 = nrow d) : ∃ σ', f_X4_leakIn 13 σ = some σ' ∧ σ'.1 14 = nrow (aL pl a (3 * pl 1 0)) ∧ σ'.1 17 = nrow (dL pl d (3 * pl 1 0)) ∧ fr [14, 17] σ σ' := by
  obtain ⟨⟨b1, b2, b3, b4, b5⟩, b6, b7, b8, b9, b10, b11, b12, b13, b14⟩ := id hB
  unfold f_X4_leakIn
  refine lp_h (Q := fun r => ∃ σ', r = some σ' ∧ σ'.1 14 = nrow (aL pl a (3 * pl 1 0)) ∧ σ'.1 17 = nrow (dL pl d (3 * pl 1 0)) ∧ fr [14, 17] σ σ') (3 * pl 1 0) (fun q τ => τ.1 14 = nrow (aL pl a q) ∧ τ.1 17 = nrow (dL pl d q) ∧ fr [14, 17] σ τ) ?_ ?_ (by omega) ⟨by rw [ha, aL_0], hd, fr_0 _ _⟩
  · rintro q τ hq ⟨h1, h2, h3⟩ K
    have hP' : PC τ pl := PC_fr (by decide) h3 hP
    obtain ⟨⟨e1, e2, e3, e4, e5⟩, e6, e7, e8, e9, e10, e11, e12, e13, e14, e15, e16⟩ := id hP'
    refine ⟨sI (sI τ 14 q (nI (a q + pl 6 q))) 17 (q % 3) (nI (dL pl d q (q % 3) + pl 6 q)), ⟨?_, ?_, fr_s (by decide) (fr_s (by decide) h3)⟩, ?_⟩
    · show upd (τ.1 14) _ _ = _
      rw [h1, upd_nrow, aL_un]
    · show upd (τ.1 17) _ _ = _
      rw [h2, upd_nrow]
      rfl
    · simp (disch := omega) only [f_X4_leakIn_l2, lt_e, n_3, n_1, pk_mul, nI_add, e1, le_f, Nat.reduceAdd, ldI_n, stI_n, h1, h2, e10, nrow_at, aL_at, sI_1, reduceIte, Nat.reduceEqDiff, dvI_n, pk_rem]
  · rintro τ ⟨h1, h2, h3⟩ K
    refine ⟨τ, ?_, h1, h2, h3⟩
    have hP' : PC τ pl := PC_fr (by decide) h3 hP
    simp (disch := omega) only [f_X4_leakIn_l2, hP'.1.1, le_t, n_3, pk_mul]
theorem c_flow13 {pl : Nat → Nat → Nat} (hB : PB pl) {σ : Hp} (hP : PC σ pl) {a b w t d : Nat → Nat} {B : Nat} (hBB : B < 700000000) (ha : σ.1 14 = nrow a) (hb : ∀ k, k < 15 → σ.1 18 k = nI (b k)) (hbb : ∀ k, k < 15 → b k < 2147483648) (hK : KNk B a w t d) {i j z : Nat} (hi : i < pl 1 0) (hj : j < pl 1 0) (hij : i ≠ j) (hz : z ≤ 9) : ∃ σ', f_X4_flow 13 (nI i) (nI j) (nI z) σ = some σ' ∧ σ'.1 14 = nrow (mvs (fun g => b (3 * i + g) * z / (100 * pl 2 i)) i j a 3) ∧ fr [14] σ σ' := by
  obtain ⟨⟨b1, b2, b3, b4, b5⟩, b6, b7, b8, b9, b10, b11, b12, b13, b14⟩ := id hB
  have hsz := b6 i hi
  unfold f_X4_flow
  rw [c_dv hB hP hi, cr_s, lt_e, L_100, lN_mul]
  refine lp_h (Q := fun r => ∃ σ', r = some σ' ∧ σ'.1 14 = nrow (mvs (fun g => b (3 * i + g) * z / (100 * pl 2 i)) i j a 3) ∧ fr [14] σ σ') 3 (fun g τ => τ.1 14 = nrow (mvs (fun g => b (3 * i + g) * z / (100 * pl 2 i)) i j a g) ∧ fr [14] σ τ) ?_ ?_ (by omega) ⟨ha, fr_0 _ _⟩
  · rintro g τ hg ⟨h1, h3⟩ K
    have h2 : ∀ k, k < 15 → τ.1 18 k = nI (b k) := by rw [h3 18 (by decide)]; exact hb
    have hK1 := KN_mvs hK (sh := fun g => b (3 * i + g) * z / (100 * pl 2 i)) (i := i) (j := j) (by omega) (by omega) hij g (by omega)
    show ∃ σ', (σ'.1 14 = nrow (mvN (b (3 * i + g) * z / (100 * pl 2 i)) (3 * i + g) (3 * j + g) (mvs (fun g => b (3 * i + g) * z / (100 * pl 2 i)) i j a g)) ∧ fr [14] σ σ') ∧ _
    generalize mvs (fun g => b (3 * i + g) * z / (100 * pl 2 i)) i j a g = A at h1 hK1 ⊢
    have q1 := KN_a hK1 (k := 3 * i + g) (by omega)
    have q2 := hbb (3 * i + g) (by omega)
    have q3 := sh_le (x := b (3 * i + g)) hz hsz.1
    refine ⟨sI (sI τ 14 (3 * i + g) (nI (A (3 * i + g) - min (A (3 * i + g)) (b (3 * i + g) * z / (100 * pl 2 i))))) 14 (3 * j + g) (nI (un A (3 * i + g) (A (3 * i + g) - min (A (3 * i + g)) (b (3 * i + g) * z / (100 * pl 2 i))) (3 * j + g) + min (A (3 * i + g)) (b (3 * i + g) * z / (100 * pl 2 i)))), ⟨?_, fr_s (by decide) (fr_s (by decide) h3)⟩, ?_⟩
    · show upd (upd (τ.1 14) _ _) _ _ = _
      rw [h1, upd_nrow, upd_nrow]
      rfl
    · simp (disch := omega) only [f_X4_flow_l14, lt_e, n_3, n_1, pk_mul, nI_add, le_f, Nat.reduceAdd, Nat.mul_comm i 3, Nat.mul_comm j 3, ldI_n, stI_n, h1, h2, nrow_at, sI_1, reduceIte, Nat.reduceEqDiff, dvJ_n, nI_l, shL, minL, lN_i, pk_sub, upd_nrow]
  · rintro τ ⟨h1, h3⟩ K
    exact ⟨τ, rfl, h1, h3⟩
theorem c_held13 {ρ : Hp} {t : Nat → Nat} (ht : ρ.1 16 = nrow t) {p : Nat} (hp : p < 8) : f_X4_held 13 (nI p) ρ = some (nI (hdN t p)) := by
  unfold f_X4_held hdN
  simp (disch := omega) only [n_3, n_1, n_2, pk_mul, nI_add, Nat.reduceAdd, Nat.mul_comm p 3, ldI_n, ht, nrow_at]
theorem c_draw13 {pl : Nat → Nat → Nat} (hB : PB pl) {σ : Hp} (hP : PC σ pl) {x : (Nat → Nat) × (Nat → Nat)} {w d : Nat → Nat} {B : Nat} (hBB : B < 700000000) (ha : σ.1 14 = nrow x.1) (ht : σ.1 16 = nrow x.2) (hK : KNk B x.1 w x.2 d ∧ TN pl x.2) {p : Nat} (hp : p < pl 1 11) : ∃ σ', f_X4_draw 13 (nI p) σ = some σ' ∧ σ'.1 14 = nrow (drs pl p x 3).1 ∧ σ'.1 16 = nrow (drs pl p x 3).2 ∧ fr [14, 16] σ σ' := by
  obtain ⟨⟨b1, b2, b3, b4, b5⟩, b6, b7, b8, b9, b10, b11, b12, b13, b14⟩ := id hB
  obtain ⟨⟨e1, e2, e3, e4, e5⟩, e6, e7, e8, e9, e10, e11, e12, e13, e14, e15, e16⟩ := id hP
  have hr := b12 p hp
  have hsz := b6 _ hr
  have hl := b14 p
  unfold f_X4_draw
  simp (disch := omega) only [ldI_n, e14]
  rw [c_dv hB hP hr, cr_s, lt_e, L_100, lN_mul]
  refine lp_h (Q := fun r => ∃ σ', r = some σ' ∧ σ'.1 14 = nrow (drs pl p x 3).1 ∧ σ'.1 16 = nrow (drs pl p x 3).2 ∧ fr [14, 16] σ σ') 3 (fun g τ => τ.1 14 = nrow (drs pl p x g).1 ∧ τ.1 16 = nrow (drs pl p x g).2 ∧ fr [14, 16] σ τ) ?_ ?_ (by omega) ⟨ha, ht, fr_0 _ _⟩
  · rintro g τ hg ⟨h1, h2, h3⟩ K
    have hP' : PC τ pl := PC_fr (by decide) h3 hP
    obtain ⟨⟨f1, f2, f3, f4, f5⟩, f6, f7, f8, f9, f10, f11, f12, f13, f14, f15, f16⟩ := id hP'
    have hK1 := KN_drs hB hK hp g (by omega)
    show ∃ σ', (σ'.1 14 = nrow (drN pl p g (drs pl p x g)).1 ∧ σ'.1 16 = nrow (drN pl p g (drs pl p x g)).2 ∧ fr [14, 16] σ σ') ∧ _
    generalize drs pl p x g = y at h1 h2 hK1 ⊢
    have q1 := KN_a hK1.1 (k := 3 * pl 10 p + g) (by omega)
    have q4 := tkN_le hB hp g y
    have q5 := b13 (3 * p + g)
    have q6 := c_held13 h2 (show p < 8 by omega)
    refine ⟨sI (sI τ 14 (3 * pl 10 p + g) (nI (y.1 (3 * pl 10 p + g) - tkN pl p g y))) 16 (3 * p + g) (nI (y.2 (3 * p + g) + tkN pl p g y)), ⟨?_, ?_, fr_s (by decide) (fr_s (by decide) h3)⟩, ?_⟩
    · show upd (τ.1 14) _ _ = _
      rw [h1, upd_nrow]
      rfl
    · show upd (τ.1 16) _ _ = _
      rw [h2, upd_nrow]
      rfl
    · by_cases hlim : 0 < pl 12 p
      · have q7 := hK1.2.1 p hlim
        have q8 : tkN pl p g y = min (pl 12 p - hdN y.2 p) (y.1 (3 * pl 10 p + g) * pl 11 (3 * p + g) / (100 * pl 2 (pl 10 p))) := by
          unfold tkN
          rw [if_pos hlim, Nat.min_comm]
        rw [q8] at q4 ⊢
        simp (disch := omega) only [f_X4_draw_l21, f_X4_draw_j90, jn_e, lt_e, n_0, n_3, n_1, pk_mul, nI_add, le_f, Nat.reduceAdd, Nat.mul_comm p 3, Nat.mul_comm (pl 10 p) 3, ldI_n, stI_n, h1, h2, f15, f16, nrow_at, sI_1, reduceIte, Nat.reduceEqDiff, dvJ_n, q6, cr_s, nI_l, shL, minL, lN_i, pk_sub, upd_nrow]
      · have q8 : tkN pl p g y = y.1 (3 * pl 10 p + g) * pl 11 (3 * p + g) / (100 * pl 2 (pl 10 p)) := by
          unfold tkN
          rw [if_neg hlim]
        rw [q8] at q4 ⊢
        simp (disch := omega) only [f_X4_draw_l21, f_X4_draw_j90, jn_e, lt_e, n_0, n_3, n_1, pk_mul, nI_add, le_f, le_t, Nat.reduceAdd, Nat.mul_comm p 3, Nat.mul_comm (pl 10 p) 3, ldI_n, stI_n, h1, h2, f15, f16, nrow_at, sI_1, reduceIte, Nat.reduceEqDiff, dvJ_n, shC, lN_i, pk_sub, upd_nrow]
  · rintro τ ⟨h1, h2, h3⟩ K
    exact ⟨τ, rfl, h1, h2, h3⟩
theorem c_back13 {pl : Nat → Nat → Nat} (hB : PB pl) {σ : Hp} (hP : PC σ pl) {x : (Nat → Nat) × (Nat → Nat)} {w d : Nat → Nat} {B m : Nat} (hBB : B < 700000000) (ha : σ.1 14 = nrow x.1) (ht : σ.1 16 = nrow x.2) (hm : σ.1 13 1 = nI m) (hm8 : m < 256) (hK : KNk B x.1 w x.2 d ∧ TN pl x.2) {p : Nat} (hp : p < pl 1 11) (hmp : m.testBit p = true) : ∃ σ', f_X4_giveBack 13 (nI p) σ = some σ' ∧ σ'.1 14 = nrow (gbs pl p x 3).1 ∧ σ'.1 16 = nrow (gbs pl p x 3).2 ∧ σ'.1 13 1 = nI (if hdN (gbs pl p x 3).2 p = 0 then m - 2 ^ p else m) ∧ σ'.1 13 0 = σ.1 13 0 ∧ fr [13, 14, 16] σ σ' := by
  obtain ⟨⟨b1, b2, b3, b4, b5⟩, b6, b7, b8, b9, b10, b11, b12, b13, b14⟩ := id hB
  have hr := b12 p hp
  unfold f_X4_giveBack
  rw [jn_e]
  refine lp_h (Q := fun r => ∃ σ', r = some σ' ∧ σ'.1 14 = nrow (gbs pl p x 3).1 ∧ σ'.1 16 = nrow (gbs pl p x 3).2 ∧ σ'.1 13 1 = nI (if hdN (gbs pl p x 3).2 p = 0 then m - 2 ^ p else m) ∧ σ'.1 13 0 = σ.1 13 0 ∧ fr [13, 14, 16] σ σ') 3 (fun g τ => τ.1 14 = nrow (gbs pl p x g).1 ∧ τ.1 16 = nrow (gbs pl p x g).2 ∧ fr [14, 16] σ τ) ?_ ?_ (by omega) ⟨ha, ht, fr_0 _ _⟩
  · rintro g τ hg ⟨h1, h2, h3⟩ K
    have hP' : PC τ pl := PC_fr (by decide) h3 hP
    obtain ⟨⟨f1, f2, f3, f4, f5⟩, f6, f7, f8, f9, f10, f11, f12, f13, f14, f15, f16⟩ := id hP'
    have hK1 := KN_gbs hB hK hp g (by omega)
    show ∃ σ', (σ'.1 14 = nrow (gbN pl p g (gbs pl p x g)).1 ∧ σ'.1 16 = nrow (gbN pl p g (gbs pl p x g)).2 ∧ fr [14, 16] σ σ') ∧ _
    generalize gbs pl p x g = y at h1 h2 hK1 ⊢
    have q1 := KN_t hK1.1 (k := 3 * p + g) (by omega)
    refine ⟨sI (sI τ 16 (3 * p + g) (nI (y.2 (3 * p + g) - (y.2 (3 * p + g) + 9) / 10))) 14 (3 * pl 10 p + g) (nI (y.1 (3 * pl 10 p + g) + (y.2 (3 * p + g) + 9) / 10)), ⟨?_, ?_, fr_s (by decide) (fr_s (by decide) h3)⟩, ?_⟩
    · show upd (τ.1 14) _ _ = _
      rw [h1, upd_nrow]
      rfl
    · show upd (τ.1 16) _ _ = _
      rw [h2, upd_nrow]
      rfl
    · simp (disch := omega) only [f_X4_giveBack_l2, lt_e, n_3, n_1, n_9, n_10, pk_mul, nI_add, le_f, Nat.reduceAdd, Nat.mul_comm p 3, Nat.mul_comm (pl 10 p) 3, ldI_n, stI_n, h1, h2, f14, nrow_at, sI_1, reduceIte, Nat.reduceEqDiff, dvI_n, pk_div, pk_sub, upd_nrow]
  · rintro τ ⟨h1, h2, h3⟩ K
    have hK1 := KN_gbs hB hK hp 3 (by omega)
    generalize gbs pl p x 3 = y at h1 h2 hK1 ⊢
    have q6 := c_held13 h2 (show p < 8 by omega)
    have m1 : τ.1 13 1 = nI m := by rw [h3 13 (by decide)]; exact hm
    have m0 : τ.1 13 0 = σ.1 13 0 := by rw [h3 13 (by decide)]
    have q0 := KN_t hK1.1 (k := 3 * p) (by omega)
    have q1 := KN_t hK1.1 (k := 3 * p + 1) (by omega)
    have q2 := KN_t hK1.1 (k := 3 * p + 2) (by omega)
    have q3 : nI (hdN y.2 p) = 0 ↔ hdN y.2 p = 0 := by
      have h0 : hdN y.2 p = y.2 (3 * p) + y.2 (3 * p + 1) + y.2 (3 * p + 2) := rfl
      exact nI_eq (a := hdN y.2 p) (b := 0) (by omega) (by omega)
    by_cases e : hdN y.2 p = 0
    · refine ⟨sI τ 13 1 (nI (m - 2 ^ p)), ?_, h1, h2, ?_, m0, fr_s (by decide) (fr_m (by decide) h3)⟩
      · simp (disch := omega) only [f_X4_giveBack_l2, f_X4_giveBack_j67, n_3, le_t, q6, cr_s, lt_e, if_pos (q3.2 e), m1, (clrC m hm8 p (by omega) hmp).1]
      · rw [if_pos e]; rfl
    · refine ⟨τ, ?_, h1, h2, ?_, m0, fr_m (by decide) h3⟩
      · simp (disch := omega) only [f_X4_giveBack_l2, f_X4_giveBack_j67, n_3, le_t, q6, cr_s, lt_e, if_neg (fun h => e (q3.1 h))]
      · rw [if_neg e]; exact m1
theorem c_leak19 {pl : Nat → Nat → Nat} (hB : PB pl) {σ : Hp} (hP : PC σ pl) {a d : Nat → Nat} (ha : σ.1 20 = nrow a) (hd : σ.1 23 = nrow d) : ∃ σ', f_X4_leakIn 19 σ = some σ' ∧ σ'.1 20 = nrow (aL pl a (3 * pl 1 0)) ∧ σ'.1 23 = nrow (dL pl d (3 * pl 1 0)) ∧ fr [20, 23] σ σ' := by
  obtain ⟨⟨b1, b2, b3, b4, b5⟩, b6, b7, b8, b9, b10, b11, b12, b13, b14⟩ := id hB
  unfold f_X4_leakIn
  refine lp_h (Q := fun r => ∃ σ', r = some σ' ∧ σ'.1 20 = nrow (aL pl a (3 * pl 1 0)) ∧ σ'.1 23 = nrow (dL pl d (3 * pl 1 0)) ∧ fr [20, 23] σ σ') (3 * pl 1 0) (fun q τ => τ.1 20 = nrow (aL pl a q) ∧ τ.1 23 = nrow (dL pl d q) ∧ fr [20, 23] σ τ) ?_ ?_ (by omega) ⟨by rw [ha, aL_0], hd, fr_0 _ _⟩
  · rintro q τ hq ⟨h1, h2, h3⟩ K
    have hP' : PC τ pl := PC_fr (by decide) h3 hP
    obtain ⟨⟨e1, e2, e3, e4, e5⟩, e6, e7, e8, e9, e10, e11, e12, e13, e14, e15, e16⟩ := id hP'
    refine ⟨sI (sI τ 20 q (nI (a q + pl 6 q))) 23 (q % 3) (nI (dL pl d q (q % 3) + pl 6 q)), ⟨?_, ?_, fr_s (by decide) (fr_s (by decide) h3)⟩, ?_⟩
    · show upd (τ.1 20) _ _ = _
      rw [h1, upd_nrow, aL_un]
    · show upd (τ.1 23) _ _ = _
      rw [h2, upd_nrow]
      rfl
    · simp (disch := omega) only [f_X4_leakIn_l2, lt_e, n_3, n_1, pk_mul, nI_add, e1, le_f, Nat.reduceAdd, ldI_n, stI_n, h1, h2, e10, nrow_at, aL_at, sI_1, reduceIte, Nat.reduceEqDiff, dvI_n, pk_rem]
  · rintro τ ⟨h1, h2, h3⟩ K
    refine ⟨τ, ?_, h1, h2, h3⟩
    have hP' : PC τ pl := PC_fr (by decide) h3 hP
    simp (disch := omega) only [f_X4_leakIn_l2, hP'.1.1, le_t, n_3, pk_mul]
theorem c_flow19 {pl : Nat → Nat → Nat} (hB : PB pl) {σ : Hp} (hP : PC σ pl) {a b w t d : Nat → Nat} {B : Nat} (hBB : B < 700000000) (ha : σ.1 20 = nrow a) (hb : ∀ k, k < 15 → σ.1 24 k = nI (b k)) (hbb : ∀ k, k < 15 → b k < 2147483648) (hK : KNk B a w t d) {i j z : Nat} (hi : i < pl 1 0) (hj : j < pl 1 0) (hij : i ≠ j) (hz : z ≤ 9) : ∃ σ', f_X4_flow 19 (nI i) (nI j) (nI z) σ = some σ' ∧ σ'.1 20 = nrow (mvs (fun g => b (3 * i + g) * z / (100 * pl 2 i)) i j a 3) ∧ fr [20] σ σ' := by
  obtain ⟨⟨b1, b2, b3, b4, b5⟩, b6, b7, b8, b9, b10, b11, b12, b13, b14⟩ := id hB
  have hsz := b6 i hi
  unfold f_X4_flow
  rw [c_dv hB hP hi, cr_s, lt_e, L_100, lN_mul]
  refine lp_h (Q := fun r => ∃ σ', r = some σ' ∧ σ'.1 20 = nrow (mvs (fun g => b (3 * i + g) * z / (100 * pl 2 i)) i j a 3) ∧ fr [20] σ σ') 3 (fun g τ => τ.1 20 = nrow (mvs (fun g => b (3 * i + g) * z / (100 * pl 2 i)) i j a g) ∧ fr [20] σ τ) ?_ ?_ (by omega) ⟨ha, fr_0 _ _⟩
  · rintro g τ hg ⟨h1, h3⟩ K
    have h2 : ∀ k, k < 15 → τ.1 24 k = nI (b k) := by rw [h3 24 (by decide)]; exact hb
    have hK1 := KN_mvs hK (sh := fun g => b (3 * i + g) * z / (100 * pl 2 i)) (i := i) (j := j) (by omega) (by omega) hij g (by omega)
    show ∃ σ', (σ'.1 20 = nrow (mvN (b (3 * i + g) * z / (100 * pl 2 i)) (3 * i + g) (3 * j + g) (mvs (fun g => b (3 * i + g) * z / (100 * pl 2 i)) i j a g)) ∧ fr [20] σ σ') ∧ _
    generalize mvs (fun g => b (3 * i + g) * z / (100 * pl 2 i)) i j a g = A at h1 hK1 ⊢
    have q1 := KN_a hK1 (k := 3 * i + g) (by omega)
    have q2 := hbb (3 * i + g) (by omega)
    have q3 := sh_le (x := b (3 * i + g)) hz hsz.1
    refine ⟨sI (sI τ 20 (3 * i + g) (nI (A (3 * i + g) - min (A (3 * i + g)) (b (3 * i + g) * z / (100 * pl 2 i))))) 20 (3 * j + g) (nI (un A (3 * i + g) (A (3 * i + g) - min (A (3 * i + g)) (b (3 * i + g) * z / (100 * pl 2 i))) (3 * j + g) + min (A (3 * i + g)) (b (3 * i + g) * z / (100 * pl 2 i)))), ⟨?_, fr_s (by decide) (fr_s (by decide) h3)⟩, ?_⟩
    · show upd (upd (τ.1 20) _ _) _ _ = _
      rw [h1, upd_nrow, upd_nrow]
      rfl
    · simp (disch := omega) only [f_X4_flow_l14, lt_e, n_3, n_1, pk_mul, nI_add, le_f, Nat.reduceAdd, Nat.mul_comm i 3, Nat.mul_comm j 3, ldI_n, stI_n, h1, h2, nrow_at, sI_1, reduceIte, Nat.reduceEqDiff, dvJ_n, nI_l, shL, minL, lN_i, pk_sub, upd_nrow]
  · rintro τ ⟨h1, h3⟩ K
    exact ⟨τ, rfl, h1, h3⟩
theorem c_held19 {ρ : Hp} {t : Nat → Nat} (ht : ρ.1 22 = nrow t) {p : Nat} (hp : p < 8) : f_X4_held 19 (nI p) ρ = some (nI (hdN t p)) := by
  unfold f_X4_held hdN
  simp (disch := omega) only [n_3, n_1, n_2, pk_mul, nI_add, Nat.reduceAdd, Nat.mul_comm p 3, ldI_n, ht, nrow_at]
theorem c_draw19 {pl : Nat → Nat → Nat} (hB : PB pl) {σ : Hp} (hP : PC σ pl) {x : (Nat → Nat) × (Nat → Nat)} {w d : Nat → Nat} {B : Nat} (hBB : B < 700000000) (ha : σ.1 20 = nrow x.1) (ht : σ.1 22 = nrow x.2) (hK : KNk B x.1 w x.2 d ∧ TN pl x.2) {p : Nat} (hp : p < pl 1 11) : ∃ σ', f_X4_draw 19 (nI p) σ = some σ' ∧ σ'.1 20 = nrow (drs pl p x 3).1 ∧ σ'.1 22 = nrow (drs pl p x 3).2 ∧ fr [20, 22] σ σ' := by
  obtain ⟨⟨b1, b2, b3, b4, b5⟩, b6, b7, b8, b9, b10, b11, b12, b13, b14⟩ := id hB
  obtain ⟨⟨e1, e2, e3, e4, e5⟩, e6, e7, e8, e9, e10, e11, e12, e13, e14, e15, e16⟩ := id hP
  have hr := b12 p hp
  have hsz := b6 _ hr
  have hl := b14 p
  unfold f_X4_draw
  simp (disch := omega) only [ldI_n, e14]
  rw [c_dv hB hP hr, cr_s, lt_e, L_100, lN_mul]
  refine lp_h (Q := fun r => ∃ σ', r = some σ' ∧ σ'.1 20 = nrow (drs pl p x 3).1 ∧ σ'.1 22 = nrow (drs pl p x 3).2 ∧ fr [20, 22] σ σ') 3 (fun g τ => τ.1 20 = nrow (drs pl p x g).1 ∧ τ.1 22 = nrow (drs pl p x g).2 ∧ fr [20, 22] σ τ) ?_ ?_ (by omega) ⟨ha, ht, fr_0 _ _⟩
  · rintro g τ hg ⟨h1, h2, h3⟩ K
    have hP' : PC τ pl := PC_fr (by decide) h3 hP
    obtain ⟨⟨f1, f2, f3, f4, f5⟩, f6, f7, f8, f9, f10, f11, f12, f13, f14, f15, f16⟩ := id hP'
    have hK1 := KN_drs hB hK hp g (by omega)
    show ∃ σ', (σ'.1 20 = nrow (drN pl p g (drs pl p x g)).1 ∧ σ'.1 22 = nrow (drN pl p g (drs pl p x g)).2 ∧ fr [20, 22] σ σ') ∧ _
    generalize drs pl p x g = y at h1 h2 hK1 ⊢
    have q1 := KN_a hK1.1 (k := 3 * pl 10 p + g) (by omega)
    have q4 := tkN_le hB hp g y
    have q5 := b13 (3 * p + g)
    have q6 := c_held19 h2 (show p < 8 by omega)
    refine ⟨sI (sI τ 20 (3 * pl 10 p + g) (nI (y.1 (3 * pl 10 p + g) - tkN pl p g y))) 22 (3 * p + g) (nI (y.2 (3 * p + g) + tkN pl p g y)), ⟨?_, ?_, fr_s (by decide) (fr_s (by decide) h3)⟩, ?_⟩
    · show upd (τ.1 20) _ _ = _
      rw [h1, upd_nrow]
      rfl
    · show upd (τ.1 22) _ _ = _
      rw [h2, upd_nrow]
      rfl
    · by_cases hlim : 0 < pl 12 p
      · have q7 := hK1.2.1 p hlim
        have q8 : tkN pl p g y = min (pl 12 p - hdN y.2 p) (y.1 (3 * pl 10 p + g) * pl 11 (3 * p + g) / (100 * pl 2 (pl 10 p))) := by
          unfold tkN
          rw [if_pos hlim, Nat.min_comm]
        rw [q8] at q4 ⊢
        simp (disch := omega) only [f_X4_draw_l21, f_X4_draw_j90, jn_e, lt_e, n_0, n_3, n_1, pk_mul, nI_add, le_f, Nat.reduceAdd, Nat.mul_comm p 3, Nat.mul_comm (pl 10 p) 3, ldI_n, stI_n, h1, h2, f15, f16, nrow_at, sI_1, reduceIte, Nat.reduceEqDiff, dvJ_n, q6, cr_s, nI_l, shL, minL, lN_i, pk_sub, upd_nrow]
      · have q8 : tkN pl p g y = y.1 (3 * pl 10 p + g) * pl 11 (3 * p + g) / (100 * pl 2 (pl 10 p)) := by
          unfold tkN
          rw [if_neg hlim]
        rw [q8] at q4 ⊢
        simp (disch := omega) only [f_X4_draw_l21, f_X4_draw_j90, jn_e, lt_e, n_0, n_3, n_1, pk_mul, nI_add, le_f, le_t, Nat.reduceAdd, Nat.mul_comm p 3, Nat.mul_comm (pl 10 p) 3, ldI_n, stI_n, h1, h2, f15, f16, nrow_at, sI_1, reduceIte, Nat.reduceEqDiff, dvJ_n, shC, lN_i, pk_sub, upd_nrow]
  · rintro τ ⟨h1, h2, h3⟩ K
    exact ⟨τ, rfl, h1, h2, h3⟩
theorem c_back19 {pl : Nat → Nat → Nat} (hB : PB pl) {σ : Hp} (hP : PC σ pl) {x : (Nat → Nat) × (Nat → Nat)} {w d : Nat → Nat} {B m : Nat} (hBB : B < 700000000) (ha : σ.1 20 = nrow x.1) (ht : σ.1 22 = nrow x.2) (hm : σ.1 19 1 = nI m) (hm8 : m < 256) (hK : KNk B x.1 w x.2 d ∧ TN pl x.2) {p : Nat} (hp : p < pl 1 11) (hmp : m.testBit p = true) : ∃ σ', f_X4_giveBack 19 (nI p) σ = some σ' ∧ σ'.1 20 = nrow (gbs pl p x 3).1 ∧ σ'.1 22 = nrow (gbs pl p x 3).2 ∧ σ'.1 19 1 = nI (if hdN (gbs pl p x 3).2 p = 0 then m - 2 ^ p else m) ∧ σ'.1 19 0 = σ.1 19 0 ∧ fr [19, 20, 22] σ σ' := by
  obtain ⟨⟨b1, b2, b3, b4, b5⟩, b6, b7, b8, b9, b10, b11, b12, b13, b14⟩ := id hB
  have hr := b12 p hp
  unfold f_X4_giveBack
  rw [jn_e]
  refine lp_h (Q := fun r => ∃ σ', r = some σ' ∧ σ'.1 20 = nrow (gbs pl p x 3).1 ∧ σ'.1 22 = nrow (gbs pl p x 3).2 ∧ σ'.1 19 1 = nI (if hdN (gbs pl p x 3).2 p = 0 then m - 2 ^ p else m) ∧ σ'.1 19 0 = σ.1 19 0 ∧ fr [19, 20, 22] σ σ') 3 (fun g τ => τ.1 20 = nrow (gbs pl p x g).1 ∧ τ.1 22 = nrow (gbs pl p x g).2 ∧ fr [20, 22] σ τ) ?_ ?_ (by omega) ⟨ha, ht, fr_0 _ _⟩
  · rintro g τ hg ⟨h1, h2, h3⟩ K
    have hP' : PC τ pl := PC_fr (by decide) h3 hP
    obtain ⟨⟨f1, f2, f3, f4, f5⟩, f6, f7, f8, f9, f10, f11, f12, f13, f14, f15, f16⟩ := id hP'
    have hK1 := KN_gbs hB hK hp g (by omega)
    show ∃ σ', (σ'.1 20 = nrow (gbN pl p g (gbs pl p x g)).1 ∧ σ'.1 22 = nrow (gbN pl p g (gbs pl p x g)).2 ∧ fr [20, 22] σ σ') ∧ _
    generalize gbs pl p x g = y at h1 h2 hK1 ⊢
    have q1 := KN_t hK1.1 (k := 3 * p + g) (by omega)
    refine ⟨sI (sI τ 22 (3 * p + g) (nI (y.2 (3 * p + g) - (y.2 (3 * p + g) + 9) / 10))) 20 (3 * pl 10 p + g) (nI (y.1 (3 * pl 10 p + g) + (y.2 (3 * p + g) + 9) / 10)), ⟨?_, ?_, fr_s (by decide) (fr_s (by decide) h3)⟩, ?_⟩
    · show upd (τ.1 20) _ _ = _
      rw [h1, upd_nrow]
      rfl
    · show upd (τ.1 22) _ _ = _
      rw [h2, upd_nrow]
      rfl
    · simp (disch := omega) only [f_X4_giveBack_l2, lt_e, n_3, n_1, n_9, n_10, pk_mul, nI_add, le_f, Nat.reduceAdd, Nat.mul_comm p 3, Nat.mul_comm (pl 10 p) 3, ldI_n, stI_n, h1, h2, f14, nrow_at, sI_1, reduceIte, Nat.reduceEqDiff, dvI_n, pk_div, pk_sub, upd_nrow]
  · rintro τ ⟨h1, h2, h3⟩ K
    have hK1 := KN_gbs hB hK hp 3 (by omega)
    generalize gbs pl p x 3 = y at h1 h2 hK1 ⊢
    have q6 := c_held19 h2 (show p < 8 by omega)
    have m1 : τ.1 19 1 = nI m := by rw [h3 19 (by decide)]; exact hm
    have m0 : τ.1 19 0 = σ.1 19 0 := by rw [h3 19 (by decide)]
    have q0 := KN_t hK1.1 (k := 3 * p) (by omega)
    have q1 := KN_t hK1.1 (k := 3 * p + 1) (by omega)
    have q2 := KN_t hK1.1 (k := 3 * p + 2) (by omega)
    have q3 : nI (hdN y.2 p) = 0 ↔ hdN y.2 p = 0 := by
      have h0 : hdN y.2 p = y.2 (3 * p) + y.2 (3 * p + 1) + y.2 (3 * p + 2) := rfl
      exact nI_eq (a := hdN y.2 p) (b := 0) (by omega) (by omega)
    by_cases e : hdN y.2 p = 0
    · refine ⟨sI τ 19 1 (nI (m - 2 ^ p)), ?_, h1, h2, ?_, m0, fr_s (by decide) (fr_m (by decide) h3)⟩
      · simp (disch := omega) only [f_X4_giveBack_l2, f_X4_giveBack_j67, n_3, le_t, q6, cr_s, lt_e, if_pos (q3.2 e), m1, (clrC m hm8 p (by omega) hmp).1]
      · rw [if_pos e]; rfl
    · refine ⟨τ, ?_, h1, h2, ?_, m0, fr_m (by decide) h3⟩
      · simp (disch := omega) only [f_X4_giveBack_l2, f_X4_giveBack_j67, n_3, le_t, q6, cr_s, lt_e, if_neg (fun h => e (q3.1 h))]
      · rw [if_neg e]; exact m1
