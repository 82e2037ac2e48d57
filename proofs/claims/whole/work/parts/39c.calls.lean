/-! ===== gas, reads, cold, count ===== -/
theorem KN_tell {B : Nat} {a w t d : Nat → Nat} (h : KNk B a w t d) {r g v : Nat} (hg : g < 3) (hr : r < 5) (hv : v ≤ 99999) : KNk (B + 99999) (un a (3 * r + g) (a (3 * r + g) + v)) w t (un d g (d g + v)) ∧ KNk (B + 99999) a (un w (3 * r + g) (w (3 * r + g) + v)) t (un d g (d g + v)) := by
  constructor
  · intro g' hg'
    have h0 := h g' hg'
    rw [un_at]
    by_cases e : g' = g
    · subst e
      have h1 := sn_un (f := a) (g := g') (j := r) (v := a (3 * r + g') + v) hg 5 hr
      rw [if_pos rfl]
      omega
    · rw [sn_uo hg hg' e, if_neg e]
      omega
  · intro g' hg'
    have h0 := h g' hg'
    rw [un_at]
    by_cases e : g' = g
    · subst e
      have h1 := sn_un (f := w) (g := g') (j := r) (v := w (3 * r + g') + v) hg 5 hr
      rw [if_pos rfl]
      omega
    · rw [sn_uo hg hg' e, if_neg e]
      omega
theorem un_lt {f : Nat → Nat} {B k v : Nat} (h : ∀ j, f j < B) (hv : v < B) (j : Nat) : un f k v j < B := by
  rw [un_at]
  split
  · exact hv
  · exact h j
theorem st_gas (n : Nat) (hn : n < 512) (a b c d : Int32) (hd01 : d = 0 ∨ d = 1) {σ τ : Hp} (h : RR n σ τ) : Ok32 n (f_X11_gas a b c d σ) (f_X12_gas a b c d τ) := by
  obtain ⟨hr, hr0, hr5⟩ := rr_rooms h
  simp only [f_X11_gas_j89, f_X11_gas_j84, f_X11_gas_j65, f_X11_gas_j49, f_X11_gas_j27, f_X11_gas_j22, f_X11_gas, f_X12_gas_j15, f_X12_gas_j155, f_X12_gas_j133, f_X12_gas_j77, f_X12_gas_j66, f_X12_gas, f_X4_amount_j27, f_X4_amount, f_X4_tell_j36, f_X4_tell, f_X0_forget, f_X12_forgets, jn_e, lt_e, k_within, k_isIn, k_isGas, k_isRoom, k_isPipe, k_isPump, k_out, cl_s, cr_s, rf_1, rf_2, rf_4, rf_6, rf_0, e_no1, e_no2, e_no3, e_no4, e_no6, e_no7, e_refuse1, e_refuse2, e_refuse3, e_refuse4, e_refuse6, e_refuse7, n1z, n2z, n3z, n4z, n6z, z0z, z1z, i32_lt, i32_le, Int.reduceAdd, Int.reduceSub, if_true, if_false, hr, l_0, l_1, l_3, l_99999, d_1, d_99999, ile]
  by_cases h1 : 0 ≤ a.toInt ∧ a.toInt < (σ.1 1 0).toInt
  · simp only [if_pos h1]
    by_cases h2 : 0 ≤ b.toInt ∧ b.toInt < 3
    · simp only [if_pos h2]
      have hf := RR_forget h
      obtain ⟨hB, hC, hM⟩ := RR_pl hf
      obtain ⟨x, k, u0, u1, u2, gc, gm, ni, ou, wn, hz⟩ := RR_gs hf
      obtain ⟨l1, l2, l3, l4⟩ := GS_lt ni (by omega)
      have ea := n_of h1.1
      have eb := n_of h2.1
      generalize hra : a.toInt.toNat = r at ea
      generalize hrb : b.toInt.toNat = g at eb
      have q1 : r < plN (sI (sI σ 25 3 0) 25 4 0) 1 0 := by show r < (σ.1 1 0).toInt.toNat; omega
      subst ea eb
      have hb0 := hB.1.1
      have hg3 : g < 3 := by omega
      have G1 : σ.1 14 = nrow x.1.1 := gc.1
      have G2 : σ.1 15 = nrow x.2.1 := gc.2.1
      have G4 : σ.1 17 = nrow x.2.2.1 := gc.2.2.2.1
      have M1 : τ.1 99 = nrow x.1.1 := gm.1
      have M2 : τ.1 100 = nrow x.2.1 := gm.2.1
      have M4 : τ.1 102 = nrow x.2.2.1 := gm.2.2.2.1
      have i1 : nI r * 3 + nI g = nI (3 * r + g) := by rw [n_3, pk_mul, nI_add, Nat.mul_comm r 3]
      have i2 : 3 * nI r + nI g = nI (3 * r + g) := by rw [n_3, pk_mul, nI_add]
      have q2 := l1 (3 * r + g) (by omega)
      have q3 := l2 (3 * r + g) (by omega)
      have q4 := l4 g hg3
      by_cases h3 : c.toInt < 1
      · rcases hd01 with rfl | rfl
        · simp (disch := omega) only [i1, i2, if_true, if_false, ldI_n, G1, M1, Nat.reduceAdd, if_pos h3, ite_self]
          exact ok_ref h
        · simp (disch := omega) only [i1, i2, show ¬ ((1 : Int32) = 0) by decide, if_true, if_false, ldI_n, G2, M2, Nat.reduceAdd, if_pos h3, ite_self]
          exact ok_ref h
      by_cases h4 : 99999 < c.toInt
      · rcases hd01 with rfl | rfl
        · simp (disch := omega) only [i1, i2, if_true, if_false, ldI_n, G1, M1, Nat.reduceAdd, if_neg h3, if_pos h4]
          exact ok_ref h
        · simp (disch := omega) only [i1, i2, show ¬ ((1 : Int32) = 0) by decide, if_true, if_false, ldI_n, G2, M2, Nat.reduceAdd, if_neg h3, if_pos h4]
          exact ok_ref h
      have ec := n_of (a := c) (by omega)
      generalize hrc : c.toInt.toNat = v at ec
      have hv : v ≤ 99999 := by omega
      have hv1 : 1 ≤ v := by omega
      subst ec
      have cmp : ∀ z : Nat, z < 700000000 → (0 < (lg_cmp ((nI z).toInt64 + (nI v).toInt64) (999999 : Int64)).toInt ↔ 999999 < z + v) := fun z hz => by
        have h0 := lg_cmp_gt ((nI z).toInt64 + (nI v).toInt64) (999999 : Int64)
        rw [i32_lt, l_0, nI_l (by omega), nI_l (by omega), lN_add, show (999999 : Int64) = lN 999999 from rfl, pk_lLT (by omega) (by omega)] at h0
        rw [nI_l (by omega), nI_l (by omega), lN_add, show (999999 : Int64) = lN 999999 from rfl]
        exact h0
      have l9 : (999999 : Int32).toInt = 999999 := l_999999
      rcases hd01 with rfl | rfl
      · simp (disch := omega) only [i1, i2, if_true, if_false, ldI_n, G1, M1, Nat.reduceAdd, if_neg h3, if_neg h4, nrow_at, nI_add, l9, cr_s, cmp _ q2]
        by_cases h5 : x.1.1 (3 * r + g) + v ≤ 999999
        · have h7 : ¬ 999999 < x.1.1 (3 * r + g) + v := by omega
          have h6 : ¬ 999999 < (nI (x.1.1 (3 * r + g) + v)).toInt := by rw [nI_toInt (by omega)]; omega
          simp (disch := omega) only [if_neg h7, if_neg h6, if_true, cr_s, ldI_n, stI_n, sI_1, reduceIte, Nat.reduceEqDiff, G1, M1, G4, M4, nrow_at, nI_add, upd_nrow, un_at]
          refine ⟨_, _, _, rfl, rfl, ?_⟩
          have hN := KN_tell ni.1.1 hg3 (show r < 5 by omega) hv
          refine RR_moved (n := n + 1) (by omega) (RR_same hf) rfl rfl u1 gc.2.2.2.2 ni.2 (y := ((un x.1.1 (3 * r + g) (x.1.1 (3 * r + g) + v), x.1.2), x.2.1, un x.2.2.1 g (x.2.2.1 g + v), x.2.2.2)) ⟨?_, gc.2.1, gc.2.2.1, ?_, gc.2.2.2.2⟩ ⟨?_, gm.2.1, gm.2.2.1, ?_, gm.2.2.2.2⟩ ⟨⟨?_, ni.1.2⟩, ni.2⟩ ou (fun _ h => h) (fun j => ⟨un_lt (fun j => (hz j).1) (by omega) j, (hz j).2.1, (hz j).2.2.1, un_lt (fun j => (hz j).2.2.2) (by omega) j⟩) u0 u2 ?_ ?_ gc ⟨fun j hj => if_neg (by omega), fun _ _ => rfl, fun _ _ => rfl, fun j hj => if_neg (by omega)⟩ (fun a ha => ?_)
          · show upd (σ.1 14) _ _ = _; rw [G1, upd_nrow]
          · show upd (σ.1 17) _ _ = _; rw [G4, upd_nrow]
          · show upd (τ.1 99) _ _ = _; rw [M1, upd_nrow]
          · show upd (τ.1 102) _ _ = _; rw [M4, upd_nrow]
          · rw [show 99999 * (n + 1) + 4995 * k = 99999 * n + 4995 * k + 99999 by omega]; exact hN.1
          · exact KC_fr (l := [14, 17]) (by decide) (fr_s (by decide) (fr_s (by decide) (fr_0 _ _)))
          · exact KM_fr (l := [99, 102]) (by decide) (fr_s (by decide) (fr_s (by decide) (fr_0 _ _)))
          · exact fr_s (l := [14, 17]) (by decide) (fr_s (by decide) (fr_0 _ _)) a (by revert ha; revert a; decide)
        · have h7 : 999999 < x.1.1 (3 * r + g) + v := by omega
          have h6 : 999999 < (nI (x.1.1 (3 * r + g) + v)).toInt := by rw [nI_toInt (by omega)]; omega
          simp only [if_pos h7, if_pos h6, show ¬ ((-6 : Int32) = 0) by decide, if_false]
          exact ok_ref h
      · simp (disch := omega) only [i1, i2, show ¬ ((1 : Int32) = 0) by decide, if_true, if_false, ldI_n, G2, M2, Nat.reduceAdd, if_neg h3, if_neg h4, nrow_at, nI_add, l9, cr_s, cmp _ q3]
        by_cases h5 : x.2.1 (3 * r + g) + v ≤ 999999
        · have h7 : ¬ 999999 < x.2.1 (3 * r + g) + v := by omega
          have h6 : ¬ 999999 < (nI (x.2.1 (3 * r + g) + v)).toInt := by rw [nI_toInt (by omega)]; omega
          simp (disch := omega) only [if_neg h7, if_neg h6, if_true, cr_s, ldI_n, stI_n, sI_1, reduceIte, Nat.reduceEqDiff, G2, M2, G4, M4, nrow_at, nI_add, upd_nrow, un_at]
          refine ⟨_, _, _, rfl, rfl, ?_⟩
          have hN := KN_tell ni.1.1 hg3 (show r < 5 by omega) hv
          refine RR_moved (n := n + 1) (by omega) (RR_same hf) rfl rfl u1 gc.2.2.2.2 ni.2 (y := ((x.1.1, x.1.2), un x.2.1 (3 * r + g) (x.2.1 (3 * r + g) + v), un x.2.2.1 g (x.2.2.1 g + v), x.2.2.2)) ⟨gc.1, ?_, gc.2.2.1, ?_, gc.2.2.2.2⟩ ⟨gm.1, ?_, gm.2.2.1, ?_, gm.2.2.2.2⟩ ⟨⟨?_, ni.1.2⟩, ni.2⟩ ou (fun _ h => h) (fun j => ⟨(hz j).1, un_lt (fun j => (hz j).2.1) (by omega) j, (hz j).2.2.1, un_lt (fun j => (hz j).2.2.2) (by omega) j⟩) u0 u2 ?_ ?_ gc ⟨fun _ _ => rfl, fun _ _ => rfl, fun j hj => if_neg (by omega), fun j hj => if_neg (by omega)⟩ (fun a ha => ?_)
          · show upd (σ.1 15) _ _ = _; rw [G2, upd_nrow]
          · show upd (σ.1 17) _ _ = _; rw [G4, upd_nrow]
          · show upd (τ.1 100) _ _ = _; rw [M2, upd_nrow]
          · show upd (τ.1 102) _ _ = _; rw [M4, upd_nrow]
          · rw [show 99999 * (n + 1) + 4995 * k = 99999 * n + 4995 * k + 99999 by omega]; exact hN.2
          · exact KC_fr (l := [15, 17]) (by decide) (fr_s (by decide) (fr_s (by decide) (fr_0 _ _)))
          · exact KM_fr (l := [100, 102]) (by decide) (fr_s (by decide) (fr_s (by decide) (fr_0 _ _)))
          · exact fr_s (l := [15, 17]) (by decide) (fr_s (by decide) (fr_0 _ _)) a (by revert ha; revert a; decide)
        · have h7 : 999999 < x.2.1 (3 * r + g) + v := by omega
          have h6 : 999999 < (nI (x.2.1 (3 * r + g) + v)).toInt := by rw [nI_toInt (by omega)]; omega
          simp only [if_pos h7, if_pos h6, show ¬ ((-6 : Int32) = 0) by decide, if_false]
          exact ok_ref h
    · simp only [if_neg h2, ite_self]; exact ok_ref h
  · simp only [if_neg h1, ite_self]; exact ok_ref h
