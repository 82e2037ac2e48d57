/-! ===== at rest: the rows of the model ===== -/
def vP (pl : Nat → Nat → Nat) (sp lk : Nat → Nat) (p i j : Nat) : Int := if j < 5 then mtx pl sp p i j else vM pl sp lk i 5
theorem vP_lt {pl : Nat → Nat → Nat} {sp lk : Nat → Nat} {p i j : Nat} (hj : j < 5) : vP pl sp lk p i j = mtx pl sp p i j := if_pos hj
theorem vP_5 {pl : Nat → Nat → Nat} {sp lk : Nat → Nat} {p i : Nat} : vP pl sp lk p i 5 = vM pl sp lk i 5 := rfl
theorem vP_e {pl : Nat → Nat → Nat} {sp lk : Nat → Nat} {i j : Nat} (hj : j < 6) : vP pl sp lk (pl 1 6) i j = vM pl sp lk i j := by
  by_cases h : j < 5
  · rw [vP_lt h, vM_lt h]
  · rw [show j = 5 by omega, vP_5]
theorem PM_1 {τ τ' : Hp} {pl : Nat → Nat → Nat} (h : τ'.1 = τ.1) (hM : PM τ pl) : PM τ' pl := by
  unfold PM at hM ⊢
  rw [h]; exact hM
theorem cell6 {i j i' j' : Nat} (hj : j < 6) (hj' : j' < 6) : 6 * i + j = 6 * i' + j' ↔ i = i' ∧ j = j' := by omega
section ROWS
variable {pl : Nat → Nat → Nat} {sp : Nat → Nat} {g : Nat}
theorem m_pipeRows (hB : PB pl) {τ0 τ : Hp} (h0 : frJ [128] τ0 τ) (hM : PM τ0 pl) {lk : Nat → Nat} (h131 : ∀ r, r < pl 1 0 → τ0.1 131 r = oB (cld pl sp r)) (h128 : ∀ i, i < pl 1 0 → ∀ j, j < 6 → τ.2 128 (6 * i + j) = zJ (vP pl sp lk 0 i j)) : ∃ τ', f_X12_solves_j190 τ = f_X12_solves_j330 τ' ∧ frJ [128] τ0 τ' ∧ ∀ i, i < pl 1 0 → ∀ j, j < 6 → τ'.2 128 (6 * i + j) = zJ (vM pl sp lk i j) := by
  have hn := hB.1.1
  have hnp := hB.1.2.1
  unfold f_X12_solves_j190
  rw [jn_e]
  refine lp_h (Q := fun y => ∃ τ' : Hp, y = f_X12_solves_j330 τ' ∧ frJ [128] τ0 τ' ∧ ∀ i, i < pl 1 0 → ∀ j, j < 6 → τ'.2 128 (6 * i + j) = zJ (vM pl sp lk i j)) (pl 1 6) (fun p ζ => frJ [128] τ0 ζ ∧ ∀ i, i < pl 1 0 → ∀ j, j < 6 → ζ.2 128 (6 * i + j) = zJ (vP pl sp lk p i j)) ?_ ?_ (by omega) ⟨h0, h128⟩
  · rintro p ζ hp ⟨l1, l2⟩ K2
    obtain ⟨b1, b2, b3, b4, b5⟩ := hB.2.2.2.2.2.2.1 p hp
    have hM' := PM_1 l1.1 hM
    have e21 : ζ.1 86 21 = nI (pl 1 6) := hM'.1.2.1
    have e104 : ζ.1 104 p = bN (pl 1 10) p := hM'.1.2.2.2.1 p
    have e7 : ζ.1 92 p = nI (pl 7 p) := hM'.2.2.2.2.2.2.1 p hp
    have e8 : ζ.1 93 p = nI (pl 8 p) := hM'.2.2.2.2.2.2.2.1 p hp
    have e9 : ζ.1 94 p = nI (pl 9 p) := hM'.2.2.2.2.2.2.2.2.1 p hp
    have e131 : ζ.1 131 (pl 7 p) = oB (cld pl sp (pl 7 p)) := by rw [l1.1]; exact h131 _ b1
    have hK : ∀ ρ', f_X12_solves_j324 (nI p, ζ) K2 ρ' = K2 (nI (p + 1), ρ') := fun ρ' => by
      unfold f_X12_solves_j324
      rw [lt_e, nI_1]
    generalize ha : pl 7 p = a at *
    generalize hb : pl 8 p = b at *
    generalize hw : pl 9 p = w at *
    by_cases hcond : opn pl p = true ∧ cld pl sp a = false
    · have hm : ∀ i j, mtx pl sp (p + 1) i j = mtx pl sp p i j + pcI a b w i j := fun i j => by
        rw [mtx_s, ha, hb, hw, if_pos hcond]
      have l3 : ∀ i, i < pl 1 0 → ∀ j, j < 5 → ζ.2 128 (6 * i + j) = zJ (mtx pl sp p i j) := fun i hi j hj => by
        rw [l2 i hi j (by omega), vP_lt hj]
      refine ⟨sJ (sJ (sJ (sJ ζ 128 (6 * a + a) (zJ (mtx pl sp p a a + w))) 128 (6 * a + b) (zJ (mtx pl sp p a b - w))) 128 (6 * b + b) (zJ (mtx pl sp p b b + w))) 128 (6 * b + a) (zJ (mtx pl sp p b a - w)), ⟨frJ_s (by decide) (frJ_s (by decide) (frJ_s (by decide) (frJ_s (by decide) l1))), fun i hi j hj => ?_⟩, ?_⟩
      · rw [sJ_at, sJ_at, sJ_at, sJ_at]
        simp only [true_and, cell6 hj (show a < 6 by omega), cell6 hj (show b < 6 by omega)]
        by_cases c1 : i = b ∧ j = a
        · rw [if_pos c1, c1.1, c1.2, vP_lt (by omega), hm, pcI_sym b3, pcI_ab b3]
          congr 1
        · rw [if_neg c1]
          by_cases c3 : i = b ∧ j = b
          · rw [if_pos c3, c3.1, c3.2, vP_lt (by omega), hm, pcI_bb b3]
          · rw [if_neg c3]
            by_cases c2 : i = a ∧ j = b
            · rw [if_pos c2, c2.1, c2.2, vP_lt (by omega), hm, pcI_ab b3]
              congr 1
            · rw [if_neg c2]
              by_cases c4 : i = a ∧ j = a
              · rw [if_pos c4, c4.1, c4.2, vP_lt (by omega), hm, pcI_aa b3]
              · rw [if_neg c4, l2 i hi j hj]
                by_cases h5 : j < 5
                · rw [vP_lt h5, vP_lt h5, hm, pcI_no c4 c3 c2 c1, Int.add_zero]
                · rw [show j = 5 by omega, vP_5, vP_5]
      · have n1 : ¬ 6 * a + b = 6 * a + a := by omega
        have n2 : ¬ 6 * b + b = 6 * a + a := by omega
        have n3 : ¬ 6 * b + b = 6 * a + b := by omega
        have n4 : ¬ 6 * b + a = 6 * a + a := by omega
        have n5 : ¬ 6 * b + a = 6 * a + b := by omega
        have n6 : ¬ 6 * b + a = 6 * b + b := by omega
        have hob : (pl 1 10).testBit p = true := hcond.1
        unfold f_X12_solves_l192
        dsimp only
        rw [e21, le_f hp (by omega), ldI_n (by omega) (by omega), e7, ldI_n (by omega) (by omega), e8, ldI_n (by omega) (by omega), e104, jn_e, bN_0, if_pos hob, ldI_n (by omega) (by omega), e131, hcond.2, if_pos (show oB false = 0 from rfl), show (6 : Int32) = nI 6 from rfl, pk_mul, pk_mul, nI_add, nI_add, nI_add, nI_add, ldJ_n (by omega) (by omega), ldI_n (by omega) (by omega), e9, stJ_n (by omega) (by omega), zJ_i (by omega), l3 a b1 a (by omega), zJ_add]
        rw [ldJ_n (by omega) (by omega), sJ_at, if_neg (fun h => n1 h.2), l3 a b1 b (by omega), ldI_n (by omega) (by omega), show ∀ x : Int64, (sJ ζ 128 (6 * a + a) x).1 94 p = ζ.1 94 p from fun _ => rfl, e9, zJ_i (by omega), zJ_sub, stJ_n (by omega) (by omega)]
        rw [ldJ_n (by omega) (by omega), sJ_at, if_neg (fun h => n3 h.2), sJ_at, if_neg (fun h => n2 h.2), l3 b b2 b (by omega), ldI_n (by omega) (by omega), show ∀ x y : Int64, (sJ (sJ ζ 128 (6 * a + a) x) 128 (6 * a + b) y).1 94 p = ζ.1 94 p from fun _ _ => rfl, e9, zJ_i (by omega), zJ_add, stJ_n (by omega) (by omega)]
        rw [ldJ_n (by omega) (by omega), sJ_at, if_neg (fun h => n6 h.2), sJ_at, if_neg (fun h => n5 h.2), sJ_at, if_neg (fun h => n4 h.2), l3 b b2 a (by omega), ldI_n (by omega) (by omega), show ∀ x y z : Int64, (sJ (sJ (sJ ζ 128 (6 * a + a) x) 128 (6 * a + b) y) 128 (6 * b + b) z).1 94 p = ζ.1 94 p from fun _ _ _ => rfl, e9, zJ_i (by omega), zJ_sub, stJ_n (by omega) (by omega), hK]
    · refine ⟨ζ, ⟨l1, fun i hi j hj => ?_⟩, ?_⟩
      · rw [l2 i hi j hj]
        by_cases h5 : j < 5
        · rw [vP_lt h5, vP_lt h5, mtx_s, ha, if_neg hcond, Int.add_zero]
        · rw [show j = 5 by omega, vP_5, vP_5]
      · unfold f_X12_solves_l192
        dsimp only
        rw [e21, le_f hp (by omega), ldI_n (by omega) (by omega), e7, ldI_n (by omega) (by omega), e8, ldI_n (by omega) (by omega), e104, jn_e, bN_0, hK]
        by_cases ho : (pl 1 10).testBit p = true
        · have hcl2 : cld pl sp a = true := by
            cases e : cld pl sp a
            · exact absurd ⟨ho, e⟩ hcond
            · rfl
          rw [if_pos ho, ldI_n (by omega) (by omega), e131, hcl2, if_neg (by decide)]
        · rw [if_neg ho]
  · rintro ζ ⟨l1, l2⟩ K2
    have hM' := PM_1 l1.1 hM
    have e21 : ζ.1 86 21 = nI (pl 1 6) := hM'.1.2.1
    refine ⟨ζ, ?_, l1, fun i hi j hj => by rw [l2 i hi j hj, vP_e hj]⟩
    unfold f_X12_solves_l192
    dsimp only
    rw [e21, le_t (Nat.le_refl _) (by omega)]
theorem m_fill (hB : PB pl) {τ : Hp} (hM : PM τ pl) {os ov : Nat → Nat} {no S : Nat} (hno : no ≤ 6) (hov : ∀ j, j < no → ov j ≤ 9) (hg : g < 3) (h130 : ∀ r, r < 5 → τ.1 130 r = nI (spO os ov S r no)) (h131 : ∀ r, r < pl 1 0 → τ.1 131 r = oB (cld pl (spA pl g os ov no S) r)) : ∃ τ', f_X12_solves_j87 (nI g) τ = f_X12_solves_j330 τ' ∧ frJ [128] τ τ' ∧ ∀ i, i < pl 1 0 → ∀ j, j < 6 → τ'.2 128 (6 * i + j) = zJ (vM pl (spA pl g os ov no S) (fun r => pl 6 (3 * r + g)) i j) := by
  have hn := hB.1.1
  have hsm := spA_sum (os := os) hB (g := g) (S := S) hno hov
  generalize hsp0 : spA pl g os ov no S = sp at *
  have hsp : ∀ r, r < 5 → sp r ≤ 126 := fun r hr => sp_one hsm hr
  unfold f_X12_solves_j87
  rw [jn_e]
  refine lp_h (Q := fun y => ∃ τ' : Hp, y = f_X12_solves_j330 τ' ∧ frJ [128] τ τ' ∧ ∀ i, i < pl 1 0 → ∀ j, j < 6 → τ'.2 128 (6 * i + j) = zJ (vM pl sp (fun r => pl 6 (3 * r + g)) i j)) 30 (fun i ζ => frJ [128] τ ζ ∧ ∀ k, k < i → ζ.2 128 k = zJ 0) ?_ ?_ (by omega) ⟨frJ_0 _ _, fun k hk => absurd hk (by omega)⟩
  · rintro i ζ hi ⟨h1, h2⟩ K
    refine ⟨sJ ζ 128 i (zJ 0), ⟨frJ_s (by decide) h1, fun k hk => ?_⟩, ?_⟩
    · rw [sJ_at]
      by_cases e : k = i
      · rw [if_pos ⟨rfl, e⟩]
      · rw [if_neg (fun h => e h.2)]; exact h2 k (by omega)
    · unfold f_X12_solves_l89
      dsimp only
      rw [show ∀ y z : Option Hp, (if (30 : Int32) ≤ nI i then y else z) = z from fun y z => le_f (a := 30) (by omega) (by omega), stJ_n (by omega) (by omega), lt_e, nI_1]
      rfl
  · rintro ζ ⟨h1, h2⟩ K
    unfold f_X12_solves_l89
    dsimp only
    rw [show ∀ y z : Option Hp, (if (30 : Int32) ≤ nI 30 then y else z) = y from fun y z => le_t (a := 30) (Nat.le_refl _) (by omega)]
    unfold f_X12_solves_j108
    rw [jn_e]
    refine lp_h (Q := fun y => ∃ τ' : Hp, y = f_X12_solves_j330 τ' ∧ frJ [128] τ τ' ∧ ∀ i, i < pl 1 0 → ∀ j, j < 6 → τ'.2 128 (6 * i + j) = zJ (vM pl sp (fun r => pl 6 (3 * r + g)) i j)) (pl 1 0) (fun r ξ => frJ [128] τ ξ ∧ ∀ i, i < 5 → ∀ j, j < 6 → ξ.2 128 (6 * i + j) = if i < r then zJ (vP pl sp (fun r => pl 6 (3 * r + g)) 0 i j) else zJ 0) ?_ ?_ (by omega) ⟨h1, fun i hi j hj => by rw [if_neg (by omega)]; exact h2 _ (by omega)⟩
    · rintro r ξ hr ⟨k1, k2⟩ K2
      have hM' := PM_1 k1.1 hM
      have e20 : ξ.1 86 20 = nI (pl 1 0) := hM'.1.1
      have e131 : ξ.1 131 r = oB (cld pl sp r) := by rw [k1.1]; exact h131 r hr
      have e98 : ξ.1 98 (3 * r + g) = nI (pl 6 (3 * r + g)) := hM'.2.2.2.2.2.1 (3 * r + g)
      have hspd : f_X12_speedAt (nI r) (nI g) ξ = some (nI (sp r)) := by
        rw [← hsp0]
        exact m_speedAt hB hM' hno hov hg (by omega) (by rw [k1.1]; exact h130 r (by omega))
      have hs := hsp r (by omega)
      have b6 := hB.2.2.2.2.2.1 (3 * r + g)
      refine ⟨sJ (sJ ξ 128 (6 * r + r) (zJ (if cld pl sp r = true then 1 else (sp r : Int)))) 128 (6 * r + 5) (zJ (vM pl sp (fun r => pl 6 (3 * r + g)) r 5)), ⟨frJ_s (by decide) (frJ_s (by decide) k1), fun i hi j hj => ?_⟩, ?_⟩
      · rw [sJ_at, sJ_at]
        simp only [true_and, cell6 hj (show r < 6 by omega), cell6 hj (show 5 < 6 by omega)]
        by_cases c1 : i = r ∧ j = 5
        · rw [if_pos c1, if_pos (by omega), c1.1, c1.2, vP_5]
        · rw [if_neg c1]
          by_cases c2 : i = r ∧ j = r
          · rw [if_pos c2, c2.1, c2.2, if_pos (show r < r + 1 by omega), vP_lt (show r < 5 by omega)]
            show _ = zJ (if r = r then _ else _)
            rw [if_pos (show r = r from rfl)]
          · rw [if_neg c2, k2 i hi j hj]
            by_cases c3 : i = r
            · rw [if_neg (by omega), if_pos (by omega), vP_lt (by omega)]
              show _ = zJ (if i = j then _ else _)
              rw [if_neg (fun h => c2 ⟨c3, by omega⟩)]
            · by_cases c4 : i < r
              · rw [if_pos c4, if_pos (by omega)]
              · rw [if_neg c4, if_neg (by omega)]
      · unfold f_X12_solves_l110 f_X12_solves_j148 f_X12_solves_j183
        dsimp only
        rw [e20, le_f hr (by omega), ldI_n (by omega) (by omega), e131, jn_e, oB_0, hspd, cr_s, vM_5, show (6 : Int32) = nI 6 from rfl, pk_mul, nI_add, show (5 : Int32) = nI 5 from rfl, nI_add]
        cases hcl : cld pl sp r
        · rw [if_neg (by decide)]
          dsimp only
          rw [stJ_n (by omega) (by omega), ldI_n (by omega) (by omega), show ∀ x : Int64, (sJ ξ 128 (6 * r + r) x).1 131 r = ξ.1 131 r from fun _ => rfl, e131, hcl, jn_e, oB_0, if_neg (by decide), if_neg (by decide), if_neg (by decide), show (3 : Int32) = nI 3 from rfl, pk_mul, nI_add, ldI_n (by omega) (by omega), show ∀ x : Int64, (sJ ξ 128 (6 * r + r) x).1 98 = ξ.1 98 from fun _ => rfl, e98]
          dsimp only
          rw [stJ_n (by omega) (by omega), lt_e, nI_1, zJ_i (by omega), zJ_i (by omega)]
        · rw [if_pos rfl]
          dsimp only
          rw [stJ_n (by omega) (by omega), ldI_n (by omega) (by omega), show ∀ x : Int64, (sJ ξ 128 (6 * r + r) x).1 131 r = ξ.1 131 r from fun _ => rfl, e131, hcl, jn_e, oB_0, if_pos rfl, if_pos rfl, if_pos rfl]
          dsimp only
          rw [stJ_n (by omega) (by omega), lt_e, nI_1]
          rfl
    · rintro ξ ⟨k1, k2⟩ K2
      have hM' := PM_1 k1.1 hM
      have e20 : ξ.1 86 20 = nI (pl 1 0) := hM'.1.1
      unfold f_X12_solves_l110
      dsimp only
      rw [e20, le_t (Nat.le_refl _) (by omega)]
      exact m_pipeRows hB k1 hM h131 (fun i hi j hj => by rw [k2 i (by omega) j hj, if_pos hi])
end ROWS
