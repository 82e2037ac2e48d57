/-! ===== at rest: the call answers alike ===== -/
theorem OC_of {n : Nat} {σ τ : Hp} (h : RR n σ τ) : ∃ (no : Nat) (os ov oc : Nat → Nat), OC σ (plN σ 1 0) no os ov oc ∧ τ.1 86 80 = nI no ∧ ∀ k, k < no → τ.1 149 k = nI (os k) ∧ τ.1 150 k = nI (ov k) ∧ τ.1 151 k = nI (oc k) := by
  obtain ⟨hB, hC, -⟩ := RR_pl h
  obtain ⟨o1, o2, ⟨o3, o4, o5⟩, o6⟩ := h.2.2.2.2.2.2.2.2.2.2.1
  have e0 : ((σ.1 1 0).toInt) = (plN σ 1 0 : Int) := by
    rw [hC.1.1, nI_toInt (by have := hB.1.1; omega)]
  refine ⟨(σ.1 54 6).toInt.toNat, fun k => (σ.1 60 k).toInt.toNat, fun k => (σ.1 61 k).toInt.toNat, fun k => (σ.1 62 k).toInt.toNat, ⟨⟨n_of o2.1, by have := o2.2; omega⟩, fun k hk => ?_⟩, ?_, fun k hk => ?_⟩
  · obtain ⟨q1, q2, q3⟩ := o6 k (by have := o2.1; omega)
    rw [e0] at q1
    have := q1.1
    have := q1.2
    have := q2.1
    have := q2.2
    have := q3.1
    have := q3.2
    exact ⟨⟨n_of (by omega), by show (σ.1 60 k).toInt.toNat < _; omega⟩, ⟨n_of (by omega), by show 1 ≤ (σ.1 61 k).toInt.toNat; omega, by show (σ.1 61 k).toInt.toNat ≤ 9; omega⟩, n_of (by omega), by show (σ.1 62 k).toInt.toNat ≤ 999; omega⟩
  · rw [← o1]; exact n_of o2.1
  · obtain ⟨q1, q2, q3⟩ := o6 k (by have := o2.1; omega)
    rw [← o3, ← o4, ← o5]
    have := q1.1
    have := q2.1
    have := q3.1
    exact ⟨n_of (by omega), n_of (by omega), n_of (by omega)⟩
theorem spO_0 {os ov : Nat → Nat} {r : Nat} : ∀ k, spO os ov 0 r k = 0
  | 0 => rfl
  | k + 1 => by
    show spO os ov 0 r k + (if Nat.testBit 0 k = true ∧ os k = r then ov k else 0) = 0
    rw [spO_0 k, if_neg (fun h => by have := h.1; rw [Nat.zero_testBit] at this; cases this)]
theorem m_rest0 (a b c : Int32) (τ : Hp) : f_X12_rest a b c τ = if 0 ≤ a.toInt ∧ a.toInt < (τ.1 86 20).toInt then (if 0 ≤ b.toInt ∧ b.toInt < 3 then (if 0 ≤ c.toInt ∧ c.toInt < 2 then lp (f_X12_rest_l43 (f_X12_rest_j63 a b c)) FU ((0 : Int32), τ) else some ((-2 : Int64), rfM 2 τ)) else some ((-1 : Int64), rfM 1 τ)) else some ((-1 : Int64), rfM 1 τ) := by
  unfold f_X12_rest f_X12_rest_j15
  rw [k_isRoom]
  by_cases h1 : 0 ≤ a.toInt ∧ a.toInt < (τ.1 86 20).toInt
  · rw [if_pos h1, if_pos h1, jn_e, if_neg (by decide), k_isGas]
    by_cases h2 : 0 ≤ b.toInt ∧ b.toInt < 3
    · rw [if_pos h2, if_pos h2, if_neg (by decide), k_isIn, show (1 : Int64).toInt + 1 = 2 from rfl, show (0 : Int64).toInt = 0 from rfl]
      by_cases h3 : 0 ≤ c.toInt ∧ c.toInt < 2
      · rw [if_pos h3, if_pos h3, if_neg (by decide), jn_e]
      · rw [if_neg h3, if_neg h3, if_pos rfl]; rfl
    · rw [if_neg h2, if_neg h2, if_pos rfl]; rfl
  · rw [if_neg h1, if_neg h1, jn_e, if_pos rfl]; rfl
theorem c_rest0 (a b c : Int32) (σ : Hp) : f_X11_rest a b c σ = if 0 ≤ a.toInt ∧ a.toInt < (σ.1 1 0).toInt then (if 0 ≤ b.toInt ∧ b.toInt < 3 then (if 0 ≤ c.toInt ∧ c.toInt < 2 then cl (f_X7_fraction a b c σ) (fun v σ' => some (v, σ')) else some ((-2 : Int64), rfC 2 σ)) else some ((-1 : Int64), rfC 1 σ)) else some ((-1 : Int64), rfC 1 σ) := by
  simp only [f_X11_rest_j69, f_X11_rest_j41, f_X11_rest_j28, f_X11_rest_j23, f_X11_rest, jn_e, lt_e, k_within, cl_s, cr_s, rf_1, rf_2, rf_0, e_refuse1, e_refuse2, n1z, n2z, z0z, z1z, if_true, if_false, l_2, l_3]
  by_cases h1 : 0 ≤ a.toInt ∧ a.toInt < (σ.1 1 0).toInt
  · simp only [if_pos h1]
    by_cases h2 : 0 ≤ b.toInt ∧ b.toInt < 3
    · simp only [if_pos h2]; rfl
    · simp only [if_neg h2, ite_self]; rfl
  · simp only [if_neg h1, ite_self]; rfl
theorem st_rest (n : Nat) (a b c : Int32) {σ τ : Hp} (h : RR n σ τ) : Ok64 n (f_X11_rest a b c σ) (f_X12_rest a b c τ) := by
  obtain ⟨hB, hC, hM⟩ := RR_pl h
  have hn := hB.1.1
  have u1 := hC.1.1
  have v1 := hM.1.1
  rw [c_rest0, m_rest0, u1, v1, nI_toInt (show plN σ 1 0 < 2147483648 by omega)]
  by_cases h1 : 0 ≤ a.toInt ∧ a.toInt < (plN σ 1 0 : Int)
  · rw [if_pos h1, if_pos h1]
    by_cases h2 : 0 ≤ b.toInt ∧ b.toInt < 3
    · rw [if_pos h2, if_pos h2]
      by_cases h3 : 0 ≤ c.toInt ∧ c.toInt < 2
      · rw [if_pos h3, if_pos h3]
        obtain ⟨no, os, ov, oc, hO, -, -⟩ := OC_of h
        have hov : ∀ j, j < no → ov j ≤ 9 := fun j hj => (hO.2 j hj).2.1.2.2
        have ea := n_of h1.1
        have eb := n_of h2.1
        generalize hra : a.toInt.toNat = r at ea
        generalize hrb : b.toInt.toNat = g at eb
        have hr : r < plN σ 1 0 := by omega
        have hg : g < 3 := by omega
        subst ea eb
        generalize hpl : plN σ = pl at *
        have hsm := spA_sum (os := os) hB (g := g) (S := 0) hO.1.2 hov
        have htr := tr_v (lk := fun r => pl 6 (3 * r + g)) hB hsm
        have hMM := MM_v (sp := spA pl g os ov no 0) (lk := fun r => pl 6 (3 * r + g)) hB
        have hL := (L_v (pl := pl) (sp := spA pl g os ov no 0) (lk := fun r => pl 6 (3 * r + g)) (fun r => hB.2.2.2.2.2.1 _)).2
        obtain ⟨σ', s1, s2, s3⟩ := c_fraction hB hC hO hg (show r < 5 by omega) c
        -- the model's rows of offers are none
        have hin : ∃ τ', lp (f_X12_rest_l43 (f_X12_rest_j63 (nI r) (nI g) c)) FU ((0 : Int32), τ) = f_X12_rest_j63 (nI r) (nI g) c τ' ∧ fr [130] τ τ' ∧ ∀ r, r < 5 → τ'.1 130 r = nI (spO os ov 0 r no) := by
          refine lp_h (Q := fun y => ∃ τ' : Hp, y = f_X12_rest_j63 (nI r) (nI g) c τ' ∧ fr [130] τ τ' ∧ ∀ r, r < 5 → τ'.1 130 r = nI (spO os ov 0 r no)) 5 (fun i ζ => fr [130] τ ζ ∧ ∀ r, r < i → ζ.1 130 r = nI (spO os ov 0 r no)) ?_ ?_ (by omega) ⟨fr_0 _ _, fun r hr => absurd hr (by omega)⟩
          · rintro i ζ hi ⟨k1, k2⟩ K
            refine ⟨sI ζ 130 i 0, ⟨fr_s (by decide) k1, fun r hr => ?_⟩, ?_⟩
            · rw [sI_at]
              by_cases e : r = i
              · rw [if_pos ⟨rfl, e⟩, spO_0]; rfl
              · rw [if_neg (fun h => e h.2)]; exact k2 r (by omega)
            · unfold f_X12_rest_l43
              dsimp only
              rw [show ∀ y z : Option (Int64 × Hp), (if (5 : Int32) ≤ nI i then y else z) = z from fun y z => le_f (a := 5) (by omega) (by omega), stI_n (by omega) (by omega), lt_e, nI_1]
          · rintro ζ ⟨k1, k2⟩ K
            refine ⟨ζ, ?_, k1, k2⟩
            unfold f_X12_rest_l43
            dsimp only
            rw [show ∀ y z : Option (Int64 × Hp), (if (5 : Int32) ≤ nI 5 then y else z) = y from fun y z => le_t (a := 5) (Nat.le_refl _) (by omega)]
        obtain ⟨τ1, t1, t2, t3⟩ := hin
        have hM1 := PM_fr (l := [130]) (by decide) t2 hM
        obtain ⟨τ2, W, w1, w2, -, w4, w5, w6⟩ := m_solves hB hM1 hO.1.2 hov hg t3
        have hfm : fr [129, 130, 131] τ τ2 := fr_t (fr_m (by decide) t2) (fr_m (by decide) w2)
        have hkM : RR n σ' τ2 := RR_keep h (KC_fr (by decide) s1) (KM_fr (by decide) hfm) (fun a ha => s1 a (by revert ha; revert a; decide)) (fun a ha => hfm a (by revert ha; revert a; decide)) (by rw [hfm 86 (by decide)])
        obtain ⟨f1, f2, f3, f4, f5, f6⟩ := RI_fin hMM htr hL hn hr (w6 r hr)
        rw [t1]
        unfold f_X12_rest_j63
        rw [w1, cr_s, ldI_n (by omega) (by omega), w4 r hr, oB_0]
        cases hcl : cld pl (spA pl g os ov no 0) r
        · rw [if_neg (by decide), show (6 : Int32) = nI 6 from rfl, show (5 : Int32) = nI 5 from rfl, pk_mul, nI_add, nI_add, ldJ_n (by omega) (by omega), ldJ_n (by omega) (by omega), w5 r hr 5 (by omega), w5 r hr r (by omega)]
          generalize hv : vM pl (spA pl g os ov no 0) (fun r => pl 6 (3 * r + g)) = v at *
          obtain ⟨t, p, q, x1, x2, x3, x4, x5, x6, x7, x8⟩ := frac f1 f5 f2
          rw [s3 hcl p q x6 x7 x8, cl_s]
          have y5 : (zJ (W r 5)).toInt = W r 5 := zJ_t (by omega) (by omega)
          have yr : (zJ (W r r)).toInt = W r r := zJ_t (by omega) (by omega)
          have hgc := m_gcd (a := zJ (W r 5)) (b := zJ (W r r)) (by rw [y5]; omega) (by rw [yr]; omega)
          rw [y5, yr] at hgc
          have hgl : Nat.gcd (W r 5).natAbs (W r r).natAbs ≤ (W r r).natAbs := Nat.gcd_le_right _ (by omega)
          have hlt : lN (Nat.gcd (W r 5).natAbs (W r r).natAbs) = zJ (t.natAbs : Int) := by rw [← zJ_n, x5]
          have htn : t.natAbs ≤ 1700000000 := by omega
          rw [hgc, cr_s, jn_e, hlt]
          have hz1 : zJ (W r 5) / zJ t = zJ p := by
            have := zJ_quo (s := t) (p := p) x1 (by rw [← x2]; omega) (by omega)
            rw [← x2] at this
            exact this
          have hz2 : zJ (W r r) / zJ t = zJ q := by
            have := zJ_quo (s := t) (p := q) x1 (by rw [← x3]; omega) (by omega)
            rw [← x3] at this
            exact this
          have hk : f_X12_rest_j128 c τ2 (zJ (W r 5)) (zJ (W r r)) (zJ t) = some (if c = 0 then zJ p else zJ q, τ2) := by
            have hne : ¬ zJ t = 0 := fun e => by
              have := congrArg Int64.toInt e
              rw [zJ_t (by omega) (by omega)] at this
              exact x1 this
            unfold f_X12_rest_j128 f_X12_rest_j145 dvJ
            rw [jn_e, if_neg hne, if_neg hne, hz1, hz2]
            by_cases e : c = 0
            · rw [if_pos e, if_pos e]
            · rw [if_neg e, if_neg e]
          by_cases hs : 0 ≤ W r r
          · have : (t.natAbs : Int) = t := by
              have : 0 < t := by
                apply Int.lt_of_not_ge
                intro h
                have := Int.mul_le_mul_of_nonneg_right h (show (0 : Int) ≤ q by omega)
                rw [Int.zero_mul, ← x3] at this
                omega
              omega
            rw [if_pos (show 0 ≤ lg_cmp (zJ (W r r)) 0 from by rw [lg_cmp_ge, i64_le, yr]; exact hs), this, hk]
            exact ⟨_, _, _, rfl, rfl, RR_same hkM⟩
          · have : -(t.natAbs : Int) = t := by
              have : t < 0 := by
                apply Int.lt_of_not_ge
                intro h
                have := Int.mul_nonneg h (show (0 : Int) ≤ q by omega)
                rw [← x3] at this
                omega
              omega
            rw [if_neg (show ¬ 0 ≤ lg_cmp (zJ (W r r)) 0 from by rw [lg_cmp_ge, i64_le, yr]; exact hs), lt_e, zJ_neg, this, hk]
            exact ⟨_, _, _, rfl, rfl, RR_same hkM⟩
        · rw [if_pos rfl, s2 hcl, cl_s]
          exact ⟨_, _, _, rfl, rfl, RR_same hkM⟩
      · rw [if_neg h3, if_neg h3]; exact ok_refL h
    · rw [if_neg h2, if_neg h2]; exact ok_refL h
  · rw [if_neg h1, if_neg h1]; exact ok_refL h
