/-! ===== a plan: whether a set of offers serves (the model) ===== -/
theorem cmp_iff {x y N D m : Int} (hD : 0 < D) (hy : y ≠ 0) (h : x * D = y * N) : (0 ≤ y → (x ≤ y * m ↔ N ≤ m * D)) ∧ (¬ 0 ≤ y → (-x ≤ (-y) * m ↔ N ≤ m * D)) := by
  constructor
  · intro h0
    have hy0 : 0 < y := by omega
    rw [← Int.mul_le_mul_right hD, h, Int.mul_assoc]
    exact Int.mul_le_mul_left hy0
  · intro h0
    have hy0 : 0 < -y := by omega
    have h' : -x * D = -y * N := by rw [Int.neg_mul, h, Int.neg_mul]
    rw [← Int.mul_le_mul_right hD, h', Int.mul_assoc]
    exact Int.mul_le_mul_left hy0
theorem m_holdsDown {pl : Nat → Nat → Nat} (hB : PB pl) {τ : Hp} (hM : PM τ pl) {no : Nat} {os ov : Nat → Nat} (h80 : τ.1 86 80 = nI no) (hno : no ≤ 6) (hof : ∀ k, k < no → τ.1 149 k = nI (os k) ∧ τ.1 150 k = nI (ov k) ∧ os k < pl 1 0 ∧ ov k ≤ 9) {S m : Nat} (hS : S < 64) (hm : m ≤ 9999) : ∃ (b : Bool) (τ' : Hp), f_X12_holdsDown (nI S) (nI m) τ = some (oB b, τ') ∧ fr [129, 130, 131] τ τ' ∧ (b = true ↔ svP pl os ov no m S) := by
  have hn := hB.1.1
  have hov : ∀ j, j < no → ov j ≤ 9 := fun j hj => (hof j hj).2.2.2
  unfold f_X12_holdsDown
  rw [jn_e]
  refine lp_h (Q := fun y => ∃ (b : Bool) (τ' : Hp), y = some (oB b, τ') ∧ fr [129, 130, 131] τ τ' ∧ (b = true ↔ svP pl os ov no m S)) 5 (fun i ζ => fr [130] τ ζ ∧ ∀ r, r < i → ζ.1 130 r = nI 0) ?_ ?_ (by omega) ⟨fr_0 _ _, fun r hr => absurd hr (by omega)⟩
  · rintro i ζ hi ⟨k1, k2⟩ K
    refine ⟨sI ζ 130 i 0, ⟨fr_s (by decide) k1, fun r hr => ?_⟩, ?_⟩
    · rw [sI_at]
      by_cases e : r = i
      · rw [if_pos ⟨rfl, e⟩]; rfl
      · rw [if_neg (fun h => e h.2)]; exact k2 r (by omega)
    · unfold f_X12_holdsDown_l2
      dsimp only
      rw [show ∀ y z : Option (Int32 × Hp), (if (5 : Int32) ≤ nI i then y else z) = z from fun y z => le_f (a := 5) (by omega) (by omega), stI_n (by omega) (by omega), lt_e, nI_1]
  · rintro ζ ⟨k1, k2⟩ K
    unfold f_X12_holdsDown_l2
    dsimp only
    rw [show ∀ y z : Option (Int32 × Hp), (if (5 : Int32) ≤ nI 5 then y else z) = y from fun y z => le_t (a := 5) (Nat.le_refl _) (by omega)]
    unfold f_X12_holdsDown_j20
    rw [jn_e]
    refine lp_h (Q := fun y => ∃ (b : Bool) (τ' : Hp), y = some (oB b, τ') ∧ fr [129, 130, 131] τ τ' ∧ (b = true ↔ svP pl os ov no m S)) no (fun k ξ => fr [130] τ ξ ∧ ∀ r, r < 5 → ξ.1 130 r = nI (spO os ov S r k)) ?_ ?_ (by omega) ⟨k1, fun r hr => k2 r hr⟩
    · rintro k ξ hk ⟨l1, l2⟩ K2
      obtain ⟨o1, o2, o3, o4⟩ := hof k hk
      have f80 : ξ.1 86 80 = nI no := by rw [l1 86 (by decide)]; exact h80
      have f149 : ξ.1 149 k = nI (os k) := by rw [l1 149 (by decide)]; exact o1
      have f150 : ξ.1 150 k = nI (ov k) := by rw [l1 150 (by decide)]; exact o2
      have hb := spO_le (os := os) (ov := ov) (S := S) (r := os k) (k := k) (fun j hj => hov j (by omega)) (by omega) (by omega)
      have hs : ∀ r, spO os ov S r (k + 1) = spO os ov S r k + (if S.testBit k = true ∧ os k = r then ov k else 0) := fun r => rfl
      refine ⟨sI ξ 130 (os k) (nI (spO os ov S (os k) k + if S.testBit k = true then ov k else 0)), ⟨fr_s (by decide) l1, fun r hr => ?_⟩, ?_⟩
      · rw [sI_at, hs]
        by_cases e : r = os k
        · rw [if_pos ⟨rfl, e⟩, e]
          by_cases c : S.testBit k = true
          · rw [if_pos c, if_pos ⟨c, rfl⟩]
          · rw [if_neg c, if_neg (fun h => c h.1)]
        · rw [if_neg (fun h => e h.2), if_neg (fun h => e h.2.symm), Nat.add_zero]; exact l2 r hr
      · unfold f_X12_holdsDown_l22
        dsimp only
        rw [f80, le_f hk (by omega), ldI_n (by omega) (by omega), f149, ldI_n (by omega) (by omega), l2 _ (by omega), ldI_n (by omega) (by omega), f150, bit_mul (by omega) (by omega), nI_add, stI_n (by omega) (by omega), lt_e, nI_1]
    · rintro ξ ⟨l1, l2⟩ K2
      have f80 : ξ.1 86 80 = nI no := by rw [l1 86 (by decide)]; exact h80
      unfold f_X12_holdsDown_l22
      dsimp only
      rw [f80, le_t (Nat.le_refl _) (by omega)]
      have hM1 := PM_fr (l := [130]) (by decide) l1 hM
      have hsm := spA_sum (os := os) hB (g := 0) (S := S) hno hov
      have htr := tr_v (lk := fun r => pl 6 (3 * r + 0)) hB hsm
      have hMM := MM_v (sp := spA pl 0 os ov no S) (lk := fun r => pl 6 (3 * r + 0)) hB
      have hL := (L_v (pl := pl) (sp := spA pl 0 os ov no S) (lk := fun r => pl 6 (3 * r + 0)) (fun r => hB.2.2.2.2.2.1 _)).2
      obtain ⟨τ2, W, w1, w2, w3, w4, w5, w6⟩ := m_solves hB hM1 hno hov (g := 0) (by omega) l2
      have w4' : ∀ r, r < pl 1 0 → τ2.1 131 r = oB (cld pl (spS pl os ov no S) r) := w4
      have hM2 := PM_fr (l := [129, 131]) (by decide) w2 hM1
      have e20 : τ2.1 86 20 = nI (pl 1 0) := hM2.1.1
      have hfm : fr [129, 130, 131] τ τ2 := fr_t (fr_m (by decide) l1) (fr_m (by decide) w2)
      unfold f_X12_holdsDown_j62
      rw [show (0 : Int32) = nI 0 from rfl, w1, cr_s, jn_e]
      refine lp_e (Q := fun y => ∃ (b : Bool) (τ' : Hp), y = some (oB b, τ') ∧ fr [129, 130, 131] τ τ' ∧ (b = true ↔ svP pl os ov no m S)) (pl 1 0) (fun i s => s = nI i ∧ ∀ r, r < i → (lkN pl (pl 1 0)).testBit r = true → cld pl (spS pl os ov no S) r = false ∧ PT (vR (vS pl os ov no S) r) 31 ≤ (m : Int) * PT (vS pl os ov no S) 31) ?_ ?_ 0 (by omega) (by omega) ⟨rfl, fun r hr => absurd hr (by omega)⟩
      · rintro i s hi ⟨rfl, h1⟩ K3
        obtain ⟨f1, f2, f3, f4, f5, f6⟩ := RI_fin hMM htr hL hn hi (w6 i hi)
        have hSv : vM pl (spA pl 0 os ov no S) (fun r => pl 6 (3 * r + 0)) = vS pl os ov no S := rfl
        rw [hSv] at f2 f5
        obtain ⟨q1, q2⟩ := cmp_iff (m := (m : Int)) f5 f1 f2
        have y5 : (zJ (W i 5)).toInt = W i 5 := zJ_t (by omega) (by omega)
        have yr : (zJ (W i i)).toInt = W i i := zJ_t (by omega) (by omega)
        have hmul : (W i i * (m : Int)).natAbs ≤ 1700000000 * 9999 := by
          rw [Int.natAbs_mul, Int.natAbs_natCast]
          exact Nat.mul_le_mul f3 hm
        have hneg : -W i i * (m : Int) = -(W i i * (m : Int)) := Int.neg_mul _ _
        have hF : f_X12_holdsDown_l69 (nI m) τ2 (f_X12_holdsDown_j145 τ2) K3 (nI i) = if (lkN pl (pl 1 0)).testBit i = true then (if cld pl (spS pl os ov no S) i = true then some (oB false, τ2) else if PT (vR (vS pl os ov no S) i) 31 ≤ (m : Int) * PT (vS pl os ov no S) 31 then K3 (nI (i + 1)) else some (oB false, τ2)) else K3 (nI (i + 1)) := by
          have hK : f_X12_holdsDown_j161 (nI i) K3 () = K3 (nI (i + 1)) := by
            unfold f_X12_holdsDown_j161
            rw [lt_e, nI_1]
          unfold f_X12_holdsDown_l69
          rw [e20, le_f hi (by omega), m_leaked hB hM2 w3 hi, cr_s, jn_e, oB_0]
          by_cases c1 : (lkN pl (pl 1 0)).testBit i = true
          · rw [if_pos c1, if_pos c1, ldI_n (by omega) (by omega), w4' i hi, oB_0]
            by_cases c2 : cld pl (spS pl os ov no S) i = true
            · rw [if_pos c2, if_pos c2, ckZ_0]; rfl
            · rw [if_neg c2, if_neg c2, show (6 : Int32) = nI 6 from rfl, show (5 : Int32) = nI 5 from rfl, pk_mul, nI_add, nI_add, ldJ_n (by omega) (by omega), ldJ_n (by omega) (by omega), w5 i hi 5 (by omega), w5 i hi i (by omega), zJ_i (by omega), zJ_neg, zJ_neg, zJ_mul, zJ_mul]
              by_cases hs : 0 ≤ W i i
              · rw [if_pos (show 0 ≤ lg_cmp (zJ (W i i)) 0 from by rw [lg_cmp_ge, i64_le, yr]; exact hs)]
                by_cases c3 : PT (vR (vS pl os ov no S) i) 31 ≤ (m : Int) * PT (vS pl os ov no S) 31
                · rw [if_pos c3, if_pos (by rw [lg_cmp_le, i64_le, y5, zJ_t (by omega) (by omega)]; exact (q1 hs).2 c3)]
                  exact hK
                · rw [if_neg c3, if_neg (by rw [lg_cmp_le, i64_le, y5, zJ_t (by omega) (by omega)]; exact fun h => c3 ((q1 hs).1 h)), ckZ_0]; rfl
              · rw [if_neg (show ¬ 0 ≤ lg_cmp (zJ (W i i)) 0 from by rw [lg_cmp_ge, i64_le, yr]; exact hs)]
                by_cases c3 : PT (vR (vS pl os ov no S) i) 31 ≤ (m : Int) * PT (vS pl os ov no S) 31
                · rw [if_pos c3, if_pos (by rw [lg_cmp_le, i64_le, zJ_t (by omega) (by omega), zJ_t (by omega) (by omega)]; exact (q2 hs).2 c3)]
                  exact hK
                · rw [if_neg c3, if_neg (by rw [lg_cmp_le, i64_le, zJ_t (by omega) (by omega), zJ_t (by omega) (by omega)]; exact fun h => c3 ((q2 hs).1 h))]
                  unfold f_X12_holdsDown_j145
                  rw [ckZ_0]; rfl
          · rw [if_neg c1, if_neg c1]
            exact hK
        rw [hF]
        by_cases c1 : (lkN pl (pl 1 0)).testBit i = true
        · rw [if_pos c1]
          by_cases c2 : cld pl (spS pl os ov no S) i = true
          · rw [if_pos c2]
            refine Or.inl ⟨false, τ2, rfl, hfm, fun h => (by cases h), fun h => ?_⟩
            have := (h i hi c1).1
            rw [c2] at this
            cases this
          · rw [if_neg c2]
            by_cases c3 : PT (vR (vS pl os ov no S) i) 31 ≤ (m : Int) * PT (vS pl os ov no S) 31
            · rw [if_pos c3]
              refine Or.inr ⟨nI (i + 1), ⟨rfl, fun r hr hb => ?_⟩, rfl⟩
              by_cases e : r = i
              · rw [e]; exact ⟨Bool.eq_false_iff.2 c2, c3⟩
              · exact h1 r (by omega) hb
            · rw [if_neg c3]
              exact Or.inl ⟨false, τ2, rfl, hfm, fun h => (by cases h), fun h => absurd (h i hi c1).2 c3⟩
        · rw [if_neg c1]
          refine Or.inr ⟨nI (i + 1), ⟨rfl, fun r hr hb => ?_⟩, rfl⟩
          by_cases e : r = i
          · rw [e] at hb; exact absurd hb c1
          · exact h1 r (by omega) hb
      · rintro s ⟨rfl, h1⟩ K3
        refine ⟨true, τ2, ?_, hfm, fun _ => h1, fun _ => rfl⟩
        unfold f_X12_holdsDown_l69
        rw [e20, le_t (Nat.le_refl _) (by omega), ckZ_1]
        rfl
