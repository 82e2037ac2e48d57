/-! ===== a tick of the model ===== -/
theorem m_off {pl : Nat → Nat → Nat} (hB : PB pl) {τ : Hp} (hP : PM τ pl) {a w : Nat → Nat} (ha : τ.1 99 = nrow a) (hw : τ.1 100 = nrow w) (hb : ∀ k, k < 15 → w k < 2147483648) (k78 : Hp → Option Hp) : ∃ τ', lp (f_X12_passes_l2 k78) FU ((0 : Int32), τ) = k78 τ' ∧ τ'.1 99 = nrow (aO pl w a (3 * pl 1 0)) ∧ τ'.1 100 = nrow (wO pl w (3 * pl 1 0)) ∧ fr [99, 100] τ τ' := by
  obtain ⟨⟨b1, b2, b3, b4, b5⟩, b6, b7, b8, b9, b10, b11, b12, b13, b14⟩ := id hB
  refine lp_h (Q := fun r => ∃ τ', r = k78 τ' ∧ τ'.1 99 = nrow (aO pl w a (3 * pl 1 0)) ∧ τ'.1 100 = nrow (wO pl w (3 * pl 1 0)) ∧ fr [99, 100] τ τ') (3 * pl 1 0) (fun q ρ => ρ.1 99 = nrow (aO pl w a q) ∧ ρ.1 100 = nrow (wO pl w q) ∧ fr [99, 100] τ ρ) ?_ ?_ (by omega) ⟨by rw [ha, aO_0], by rw [hw, wO_0], fr_0 _ _⟩
  · rintro q ρ hq ⟨g2, g3, g4⟩ K
    have hP' : PM ρ pl := PM_fr (by decide) g4 hP
    obtain ⟨⟨e1, e2, e3, e4, e5⟩, e6, e7, e8, e9, e10, e11, e12, e13, e14, e15, e16⟩ := id hP'
    have hw1 := hb q (by omega)
    have hs := shN_le hB w q
    have m3 := b7 (q / 3)
    have m4 := b8 (q / 3)
    have hg : pl 5 (10 * pl 3 (q / 3) + pl 4 (q / 3)) < 2147483648 := by have := b9 (10 * pl 3 (q / 3) + pl 4 (q / 3)); omega
    have hsh : w q * pl 5 (10 * pl 3 (q / 3) + pl 4 (q / 3)) / 1000 = shN pl w q := by unfold shN gvN; rw [Nat.mul_comm 10]
    refine ⟨sI (sI ρ 100 q (nI (w q - shN pl w q))) 99 q (nI (a q + shN pl w q)), ⟨?_, ?_, fr_s (by decide) (fr_s (by decide) g4)⟩, ?_⟩
    · show upd (ρ.1 99) _ _ = _
      rw [g2, upd_nrow, aO_un]
    · show upd (ρ.1 100) _ _ = _
      rw [g3, upd_nrow, wO_un]
    · simp (disch := omega) only [f_X12_passes_l2, lt_e, n_3, n_1, n_10, L_1000, pk_mul, pk_div, nI_add, e1, e7, e8, e9, le_f, Nat.reduceAdd, ldI_n, stI_n, g2, g3, nrow_at, wO_at, aO_at, sI_1, reduceIte, Nat.reduceEqDiff, dvI_n, dvJ_n, shC, hsh, lN_i, pk_sub]
  · rintro ρ ⟨g2, g3, g4⟩ K
    have hP' : PM ρ pl := PM_fr (by decide) g4 hP
    refine ⟨ρ, ?_, g2, g3, g4⟩
    simp (disch := omega) only [f_X12_passes_l2, n_3, pk_mul, hP'.1.1, le_t]
theorem m_leak {pl : Nat → Nat → Nat} (hB : PB pl) {τ : Hp} (hP : PM τ pl) {a d : Nat → Nat} (ha : τ.1 99 = nrow a) (hd : τ.1 102 = nrow d) (k128 : Hp → Option Hp) : ∃ τ', lp (f_X12_passes_l80 k128) FU ((0 : Int32), τ) = k128 τ' ∧ τ'.1 99 = nrow (aL pl a (3 * pl 1 0)) ∧ τ'.1 102 = nrow (dL pl d (3 * pl 1 0)) ∧ fr [99, 102] τ τ' := by
  obtain ⟨⟨b1, b2, b3, b4, b5⟩, b6, b7, b8, b9, b10, b11, b12, b13, b14⟩ := id hB
  refine lp_h (Q := fun r => ∃ τ', r = k128 τ' ∧ τ'.1 99 = nrow (aL pl a (3 * pl 1 0)) ∧ τ'.1 102 = nrow (dL pl d (3 * pl 1 0)) ∧ fr [99, 102] τ τ') (3 * pl 1 0) (fun q ρ => ρ.1 99 = nrow (aL pl a q) ∧ ρ.1 102 = nrow (dL pl d q) ∧ fr [99, 102] τ ρ) ?_ ?_ (by omega) ⟨by rw [ha, aL_0], hd, fr_0 _ _⟩
  · rintro q ρ hq ⟨h1, h2, h3⟩ K
    have hP' : PM ρ pl := PM_fr (by decide) h3 hP
    obtain ⟨⟨e1, e2, e3, e4, e5⟩, e6, e7, e8, e9, e10, e11, e12, e13, e14, e15, e16⟩ := id hP'
    refine ⟨sI (sI ρ 99 q (nI (a q + pl 6 q))) 102 (q % 3) (nI (dL pl d q (q % 3) + pl 6 q)), ⟨?_, ?_, fr_s (by decide) (fr_s (by decide) h3)⟩, ?_⟩
    · show upd (ρ.1 99) _ _ = _
      rw [h1, upd_nrow, aL_un]
    · show upd (ρ.1 102) _ _ = _
      rw [h2, upd_nrow]
      rfl
    · simp (disch := omega) only [f_X12_passes_l80, lt_e, n_3, n_1, pk_mul, nI_add, e1, le_f, Nat.reduceAdd, ldI_n, stI_n, h1, h2, e10, nrow_at, aL_at, sI_1, reduceIte, Nat.reduceEqDiff, dvI_n, pk_rem]
  · rintro ρ ⟨h1, h2, h3⟩ K
    refine ⟨ρ, ?_, h1, h2, h3⟩
    have hP' : PM ρ pl := PM_fr (by decide) h3 hP
    simp (disch := omega) only [f_X12_passes_l80, hP'.1.1, le_t, n_3, pk_mul]
theorem m_share {pl : Nat → Nat → Nat} (hB : PB pl) {τ : Hp} (hP : PM τ pl) {a : Nat → Nat} (ha : τ.1 99 = nrow a) {r g z : Nat} (hr : r < pl 1 0) (hg : g < 3) (hz : z ≤ 9) (hb : a (3 * r + g) < 2147483648) : f_X12_share (nI (3 * r + g)) (nI z) τ = some (nI (a (3 * r + g) * z / (100 * pl 2 r))) := by
  obtain ⟨⟨b1, b2, b3, b4, b5⟩, b6, b7, b8, b9, b10, b11, b12, b13, b14⟩ := id hB
  have hs := b6 r hr
  have hq : (3 * r + g) / 3 = r := by omega
  unfold f_X12_share
  simp (disch := omega) only [ldI_n, n_3, dvI_n, pk_div, hq, ha, nrow_at, hP.2.1, nI_l, L_100, lN_mul, dvJ_n, lN_i]
  have h := shL (a := a (3 * r + g)) (b := z) (c := 100 * pl 2 r) hb (by omega) (by omega) (by omega)
  rw [lN_mul] at h
  rw [h, lN_i]
theorem m_moves {τ : Hp} {a : Nat → Nat} (ha : τ.1 99 = nrow a) {i j s : Nat} (hi : i < 15) (hj : j < 15) (hb : a i < 2147483648) (hs : s < 2147483648) : f_X12_moves (nI i) (nI j) (nI s) τ = some (sI (sI τ 99 i (nI (a i - min (a i) s))) 99 j (nI (un a i (a i - min (a i) s) j + min (a i) s))) := by
  unfold f_X12_moves f_X12_moves_j20
  by_cases h : a i ≤ s
  · rw [Nat.min_eq_left h]
    simp (disch := omega) only [jn_e, ldI_n, stI_n, ha, nrow_at, le_t, sI_1, reduceIte, Nat.reduceEqDiff, pk_sub, upd_nrow, nI_add]
  · rw [Nat.min_eq_right (by omega)]
    simp (disch := omega) only [jn_e, ldI_n, stI_n, ha, nrow_at, le_f, sI_1, reduceIte, Nat.reduceEqDiff, pk_sub, upd_nrow, nI_add]
/-- both shares of a pipe -/
def shA (pl : Nat → Nat → Nat) (b : Nat → Nat) (p g : Nat) : Nat := b (3 * pl 7 p + g) * pl 9 p / (100 * pl 2 (pl 7 p))
def shB (pl : Nat → Nat → Nat) (b : Nat → Nat) (p g : Nat) : Nat := b (3 * pl 8 p + g) * pl 9 p / (100 * pl 2 (pl 8 p))
/-- the shares worked out ahead -/
def SH (pl : Nat → Nat → Nat) (b : Nat → Nat) (ρ : Hp) (p n : Nat) : Prop := ∀ g, g < n → ρ.1 107 (3 * p + g) = nI (shA pl b p g) ∧ ρ.1 108 (3 * p + g) = nI (shB pl b p g)
theorem m_shares {pl : Nat → Nat → Nat} (hB : PB pl) {τ : Hp} (hP : PM τ pl) {b : Nat → Nat} (hb : τ.1 99 = nrow b) (hbb : ∀ k, k < 15 → b k < 2147483648) (k98 : Hp → Option Hp) : ∃ τ', lp (f_X12_flows_l2 k98) FU ((0 : Int32), τ) = k98 τ' ∧ (∀ p, p < pl 1 6 → (pl 1 10).testBit p = true → SH pl b τ' p 3) ∧ fr [107, 108] τ τ' := by
  obtain ⟨⟨b1, b2, b3, b4, b5⟩, b6, b7, b8, b9, b10, b11, b12, b13, b14⟩ := id hB
  refine lp_h (Q := fun r => ∃ τ', r = k98 τ' ∧ (∀ p, p < pl 1 6 → (pl 1 10).testBit p = true → SH pl b τ' p 3) ∧ fr [107, 108] τ τ') (pl 1 6) (fun p ρ => (∀ p', p' < p → (pl 1 10).testBit p' = true → SH pl b ρ p' 3) ∧ fr [107, 108] τ ρ) ?_ ?_ (by omega) ⟨fun p h => absurd h (by omega), fr_0 _ _⟩
  · rintro p ρ hp ⟨h1, h3⟩ K
    have hP' : PM ρ pl := PM_fr (by decide) h3 hP
    obtain ⟨⟨e1, e2, e3, e4, e5⟩, e6, e7, e8, e9, e10, e11, e12, e13, e14, e15, e16⟩ := id hP'
    simp (disch := omega) only [f_X12_flows_l2, jn_e, e2, le_f]
    by_cases e : (pl 1 10).testBit p
    · refine lp_h (Q := fun x => ∃ ρ', ((∀ p', p' < p + 1 → (pl 1 10).testBit p' = true → SH pl b ρ' p' 3) ∧ fr [107, 108] τ ρ') ∧ x = K (nI (p + 1), ρ')) 3 (fun g κ => (∀ p', p' < p → (pl 1 10).testBit p' = true → SH pl b κ p' 3) ∧ SH pl b κ p g ∧ fr [107, 108] τ κ) ?_ ?_ (by omega) ⟨h1, fun g h => absurd h (by omega), h3⟩
      · rintro g κ hg ⟨g1, g2, g3⟩ K2
        have hP2 : PM κ pl := PM_fr (by decide) g3 hP
        obtain ⟨⟨f1, f2, f3, f4, f5⟩, f6, f7, f8, f9, f10, f11, f12, f13, f14, f15, f16⟩ := id hP2
        have hq := b11 p hp
        have q1 := hbb (3 * pl 7 p + g) (by omega)
        have q2 := hbb (3 * pl 8 p + g) (by omega)
        have h99 : κ.1 99 = nrow b := by rw [g3 99 (by decide)]; exact hb
        have s1 := m_share hB hP2 h99 hq.1 hg hq.2.2.2.2 q1
        have s2 := m_share hB (τ := sI κ 107 (3 * p + g) (nI (shA pl b p g))) (PM_fr (l := [107]) (by decide) (fr_s (by decide) (fr_0 _ _)) hP2) (show (sI κ 107 (3 * p + g) (nI (shA pl b p g))).1 99 = nrow b from h99) hq.2.1 hg hq.2.2.2.2 q2
        refine ⟨sI (sI κ 107 (3 * p + g) (nI (shA pl b p g))) 108 (3 * p + g) (nI (shB pl b p g)), ⟨fun p' hp' he g' hg' => ?_, fun g' hg' => ?_, fr_s (by decide) (fr_s (by decide) g3)⟩, ?_⟩
        · show upd (κ.1 107) _ _ _ = _ ∧ upd (κ.1 108) _ _ _ = _
          rw [pk_un (by omega), pk_un (by omega)]
          exact g1 p' hp' he g' hg'
        · show upd (κ.1 107) _ _ _ = _ ∧ upd (κ.1 108) _ _ _ = _
          by_cases eg : g' = g
          · subst eg; exact ⟨pk_us, pk_us⟩
          · rw [pk_un (by omega), pk_un (by omega)]
            exact g2 g' (by omega)
        · simp (disch := omega) only [f_X12_flows_l12, lt_e, n_3, n_1, pk_mul, nI_add, le_f, ldI_n, stI_n, f4, bN_0, e, if_true, f11, f13, s1, cr_s, sI_1, reduceIte, Nat.reduceEqDiff, f12]
          rw [show nI (b (3 * pl 7 p + g) * pl 9 p / (100 * pl 2 (pl 7 p))) = nI (shA pl b p g) from rfl, s2, cr_s]
          rfl
      · rintro κ ⟨g1, g2, g3⟩ K2
        refine ⟨κ, ⟨fun p' hp' he => ?_, g3⟩, ?_⟩
        · by_cases ep : p' = p
          · subst ep; exact g2
          · exact g1 p' (by omega) he
        · simp (disch := omega) only [f_X12_flows_l12, f_X12_flows_j92, lt_e, n_3, n_1, nI_add, le_t]
    · have e := Bool.eq_false_iff.mpr e
      refine ⟨ρ, ⟨fun p' hp' he => ?_, h3⟩, ?_⟩
      · by_cases ep : p' = p
        · subst ep; rw [e] at he; cases he
        · exact h1 p' (by omega) he
      · rw [FU_e, show (1099511627776 : Nat) = 1099511627775 + 1 from rfl, lp_succ]
        generalize lp (f_X12_flows_l12 (nI p, ρ) (f_X12_flows_j92 (nI p, ρ) K)) 1099511627775 = KK
        simp (disch := omega) only [f_X12_flows_l12, f_X12_flows_j92, lt_e, n_0, n_3, n_1, nI_add, le_f, ldI_n, e4, bN_0', e, if_false, Bool.false_eq_true]
  · rintro ρ ⟨h1, h3⟩ K
    have hP' : PM ρ pl := PM_fr (by decide) h3 hP
    refine ⟨ρ, ?_, h1, h3⟩
    simp (disch := omega) only [f_X12_flows_l2, hP'.1.2.1, le_t]
/-- a pipe in the model's order: gas by gas, forth and back -/
def fMs (pl : Nat → Nat → Nat) (b : Nat → Nat) (p : Nat) (a : Nat → Nat) : Nat → Nat → Nat
  | 0 => a
  | g + 1 => fB pl b p g (fA pl b p g (fMs pl b p a g))
theorem un_comm {a : Nat → Nat} {i j u v : Nat} (h : i ≠ j) : un (un a i u) j v = un (un a j v) i u := by
  funext k
  simp only [un_at]
  by_cases h1 : k = i
  · subst h1; rw [if_pos rfl, if_pos rfl, if_neg h]
  · rw [if_neg h1, if_neg h1]
theorem mv_at (s i j : Nat) (a : Nat → Nat) (k : Nat) : mvN s i j a k = if k = j then (if j = i then a i - min (a i) s else a j) + min (a i) s else if k = i then a i - min (a i) s else a k := rfl
theorem mv_comm {a : Nat → Nat} {s i j s' i' j' : Nat} (h1 : i ≠ i') (h2 : i ≠ j') (h3 : j ≠ i') (h4 : j ≠ j') : mvN s i j (mvN s' i' j' a) = mvN s' i' j' (mvN s i j a) := by
  funext k
  have Mi : mvN s' i' j' a i = a i := by rw [mv_at, if_neg h2, if_neg h1]
  have Mj : mvN s' i' j' a j = a j := by rw [mv_at, if_neg h4, if_neg h3]
  have Ni : mvN s i j a i' = a i' := by rw [mv_at, if_neg h3.symm, if_neg h1.symm]
  have Nj : mvN s i j a j' = a j' := by rw [mv_at, if_neg h4.symm, if_neg h2.symm]
  rw [mv_at s i j (mvN s' i' j' a) k, mv_at s' i' j' (mvN s i j a) k, Mi, Mj, Ni, Nj, mv_at s' i' j' a k, mv_at s i j a k]
  by_cases e1 : k = j
  · rw [if_pos e1, if_neg (show ¬ k = j' by omega), if_neg (show ¬ k = i' by omega), if_pos e1]
  · rw [if_neg e1]
    by_cases e2 : k = i
    · rw [if_pos e2, if_neg (show ¬ k = j' by omega), if_neg (show ¬ k = i' by omega), if_neg e1, if_pos e2]
    · rw [if_neg e2, if_neg e1, if_neg e2]
theorem fMs_e (pl : Nat → Nat → Nat) (b : Nat → Nat) (p : Nat) (a : Nat → Nat) : fMs pl b p a 3 = fBs pl b p (fAs pl b p a 3) 3 := by
  show fB pl b p 2 (fA pl b p 2 (fB pl b p 1 (fA pl b p 1 (fB pl b p 0 (fA pl b p 0 a))))) = fB pl b p 2 (fB pl b p 1 (fB pl b p 0 (fA pl b p 2 (fA pl b p 1 (fA pl b p 0 a)))))
  have c : ∀ g g' x, g < 3 → g' < 3 → g ≠ g' → fA pl b p g (fB pl b p g' x) = fB pl b p g' (fA pl b p g x) := fun g g' x hg hg' h => mv_comm (by omega) (by omega) (by omega) (by omega)
  rw [c 1 0 _ (by omega) (by omega) (by omega), c 2 1 _ (by omega) (by omega) (by omega), c 2 0 _ (by omega) (by omega) (by omega)]
theorem m_pipes {pl : Nat → Nat → Nat} (hB : PB pl) {τ : Hp} (hP : PM τ pl) {a b w t d : Nat → Nat} {B : Nat} (hBB : B < 700000000) (ha : τ.1 99 = nrow a) (hbb : ∀ k, k < 15 → b k < 2147483648) (hS : ∀ p, p < pl 1 6 → (pl 1 10).testBit p = true → SH pl b τ p 3) (hK : KNk B a w t d) : ∃ τ', lp f_X12_flows_l100 FU ((0 : Int32), τ) = some τ' ∧ τ'.1 99 = nrow (fls pl b a (pl 1 6)) ∧ fr [99] τ τ' := by
  obtain ⟨⟨b1, b2, b3, b4, b5⟩, b6, b7, b8, b9, b10, b11, b12, b13, b14⟩ := id hB
  refine lp_h (Q := fun r => ∃ τ', r = some τ' ∧ τ'.1 99 = nrow (fls pl b a (pl 1 6)) ∧ fr [99] τ τ') (pl 1 6) (fun p ρ => ρ.1 99 = nrow (fls pl b a p) ∧ fr [99] τ ρ) ?_ ?_ (by omega) ⟨ha, fr_0 _ _⟩
  · rintro p ρ hp ⟨h1, h3⟩ K
    have hP' : PM ρ pl := PM_fr (by decide) h3 hP
    obtain ⟨⟨e1, e2, e3, e4, e5⟩, e6, e7, e8, e9, e10, e11, e12, e13, e14, e15, e16⟩ := id hP'
    have hK1 := KN_fls (b := b) hB hK p (by omega)
    have hq := b11 p hp
    show ∃ τ', (τ'.1 99 = nrow (if (pl 1 10).testBit p then fBs pl b p (fAs pl b p (fls pl b a p) 3) 3 else fls pl b a p) ∧ fr [99] τ τ') ∧ _
    generalize fls pl b a p = A at h1 hK1 ⊢
    simp (disch := omega) only [f_X12_flows_l100, jn_e, e2, le_f]
    by_cases e : (pl 1 10).testBit p
    · rw [if_pos e, ← fMs_e]
      have hKm : ∀ g, g ≤ 3 → KNk B (fMs pl b p A g) w t d := by
        intro g
        induction g with
        | zero => intro _; exact hK1
        | succ g ih => intro hg; exact KN_mv (KN_mv (ih (by omega)) (by omega) (by omega) (by omega) hq.2.2.1) (by omega) (by omega) (by omega) (fun e => hq.2.2.1 e.symm)
      refine lp_h (Q := fun x => ∃ ρ', (ρ'.1 99 = nrow (fMs pl b p A 3) ∧ fr [99] τ ρ') ∧ x = K (nI (p + 1), ρ')) 3 (fun g κ => κ.1 99 = nrow (fMs pl b p A g) ∧ fr [99] τ κ) ?_ ?_ (by omega) ⟨h1, h3⟩
      · rintro g κ hg ⟨g1, g3⟩ K2
        have hP2 : PM κ pl := PM_fr (by decide) g3 hP
        obtain ⟨⟨f1, f2, f3, f4, f5⟩, f6, f7, f8, f9, f10, f11, f12, f13, f14, f15, f16⟩ := id hP2
        have hk := hKm g (by omega)
        show ∃ ρ', (ρ'.1 99 = nrow (fB pl b p g (fA pl b p g (fMs pl b p A g))) ∧ fr [99] τ ρ') ∧ _
        generalize fMs pl b p A g = X at g1 hk ⊢
        have hk2 : KNk B (fA pl b p g X) w t d := KN_mv hk hg (by omega) (by omega) hq.2.2.1
        have x1 := KN_a hk (k := 3 * pl 7 p + g) (by omega)
        have x2 := KN_a hk2 (k := 3 * pl 8 p + g) (by omega)
        have y1 := sh_le (x := b (3 * pl 7 p + g)) hq.2.2.2.2 (b6 _ hq.1).1
        have y2 := sh_le (x := b (3 * pl 8 p + g)) hq.2.2.2.2 (b6 _ hq.2.1).1
        have z1 := hbb (3 * pl 7 p + g) (by omega)
        have z2 := hbb (3 * pl 8 p + g) (by omega)
        have hsh := hS p hp e g hg
        have s7 : κ.1 107 (3 * p + g) = nI (shA pl b p g) := by rw [g3 107 (by decide)]; exact hsh.1
        have s8 : κ.1 108 (3 * p + g) = nI (shB pl b p g) := by rw [g3 108 (by decide)]; exact hsh.2
        have mv1 := m_moves g1 (i := 3 * pl 7 p + g) (j := 3 * pl 8 p + g) (s := shA pl b p g) (by omega) (by omega) (by omega) (by unfold shA; omega)
        generalize hκ1 : sI (sI κ 99 (3 * pl 7 p + g) (nI (X (3 * pl 7 p + g) - min (X (3 * pl 7 p + g)) (shA pl b p g)))) 99 (3 * pl 8 p + g) (nI (un X (3 * pl 7 p + g) (X (3 * pl 7 p + g) - min (X (3 * pl 7 p + g)) (shA pl b p g)) (3 * pl 8 p + g) + min (X (3 * pl 7 p + g)) (shA pl b p g))) = κ1 at mv1
        have k99 : κ1.1 99 = nrow (fA pl b p g X) := by
          rw [← hκ1]
          show upd (upd (κ.1 99) _ _) _ _ = _
          rw [g1, upd_nrow, upd_nrow]
          rfl
        have kfr : fr [99] κ κ1 := by rw [← hκ1]; exact fr_s (by decide) (fr_s (by decide) (fr_0 _ _))
        have mv2 := m_moves k99 (i := 3 * pl 8 p + g) (j := 3 * pl 7 p + g) (s := shB pl b p g) (by omega) (by omega) (by omega) (by unfold shB; omega)
        have hP3 : PM κ1 pl := PM_fr (by decide) kfr hP2
        obtain ⟨⟨u1, u2, u3, u4, u5⟩, u6, u7, u8, u9, u10, u11, u12, u13, u14, u15, u16⟩ := id hP3
        have s8' : κ1.1 108 (3 * p + g) = nI (shB pl b p g) := by rw [kfr 108 (by decide)]; exact s8
        generalize hκ2 : sI (sI κ1 99 (3 * pl 8 p + g) (nI (fA pl b p g X (3 * pl 8 p + g) - min (fA pl b p g X (3 * pl 8 p + g)) (shB pl b p g)))) 99 (3 * pl 7 p + g) (nI (un (fA pl b p g X) (3 * pl 8 p + g) (fA pl b p g X (3 * pl 8 p + g) - min (fA pl b p g X (3 * pl 8 p + g)) (shB pl b p g)) (3 * pl 7 p + g) + min (fA pl b p g X (3 * pl 8 p + g)) (shB pl b p g))) = κ2 at mv2
        refine ⟨κ2, ⟨?_, ?_⟩, ?_⟩
        · rw [← hκ2]
          show upd (upd (κ1.1 99) _ _) _ _ = _
          rw [k99, upd_nrow, upd_nrow]
          rfl
        · rw [← hκ2]
          exact fr_s (by decide) (fr_s (by decide) (fr_t g3 kfr))
        · simp (disch := omega) only [f_X12_flows_l110, lt_e, n_0, n_3, n_1, pk_mul, nI_add, le_f, ldI_n, f4, bN_0', e, if_true, f11, f12, s7, mv1, cr_s, u11, u12, s8', mv2]
      · rintro κ ⟨g1, g3⟩ K2
        refine ⟨κ, ⟨g1, g3⟩, ?_⟩
        simp (disch := omega) only [f_X12_flows_l110, f_X12_flows_j198, lt_e, n_3, n_1, nI_add, le_t]
    · rw [if_neg e]
      have e := Bool.eq_false_iff.mpr e
      refine ⟨ρ, ⟨h1, h3⟩, ?_⟩
      rw [FU_e, show (1099511627776 : Nat) = 1099511627775 + 1 from rfl, lp_succ]
      generalize lp (f_X12_flows_l110 (nI p, ρ) (f_X12_flows_j198 (nI p, ρ) K)) 1099511627775 = KK
      simp (disch := omega) only [f_X12_flows_l110, f_X12_flows_j198, lt_e, n_0, n_3, n_1, nI_add, le_f, ldI_n, e4, bN_0', e, if_false, Bool.false_eq_true]
  · rintro ρ ⟨h1, h3⟩ K
    have hP' : PM ρ pl := PM_fr (by decide) h3 hP
    refine ⟨ρ, ?_, h1, h3⟩
    simp (disch := omega) only [f_X12_flows_l100, hP'.1.2.1, le_t]
