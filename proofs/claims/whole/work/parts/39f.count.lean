/-! ===== count ===== -/
theorem pc_loop {F : (Int32 × Int32 → Option Int32) → Int32 × Int32 → Option Int32} {m P : Nat} (hP : P < 1000) (hs : ∀ k, k < P → ∀ K, F K (nI (pcN m k), nI k) = K (nI (pcN m k + (if m.testBit k then 1 else 0)), nI (k + 1))) (hx : ∀ K, F K (nI (pcN m P), nI P) = some (nI (pcN m P))) : lp F FU ((0 : Int32), (0 : Int32)) = some (nI (pcN m P)) :=
  lp_d (Q := fun y => y = some (nI (pcN m P))) P (fun k => (nI (pcN m k), nI k)) (fun k hk K => hs k hk K) hx (by omega)
theorem st_count (n : Nat) (a : Int32) {σ τ : Hp} (h : RR n σ τ) : ∃ r, f_X11_count a σ = some r ∧ f_X12_count a τ = some r := by
  obtain ⟨hB, hC, hM⟩ := RR_pl h
  obtain ⟨⟨b1, b2, b3, b4, b5⟩, -⟩ := id hB
  obtain ⟨hF, hP, hG, hA, hT, hU, -⟩ := id h
  simp only [f_X11_count, f_X11_count_j22, f_X12_count, jn_e, k_isIn, i32_lt, l_11, l_17, show (11 : Int64).toInt = 11 from rfl, show (17 : Int64).toInt = 17 from rfl, Int.reduceAdd]
  by_cases h1 : 11 ≤ a.toInt ∧ a.toInt < 18
  · simp only [if_pos h1, if_neg (show ¬ a.toInt < 11 by omega), if_neg (show ¬ 17 < a.toInt by omega), z1z]
    have ea := n_of (a := a) (by omega)
    generalize hk : a.toInt.toNat = k at ea
    subst ea
    have hk2 : 11 ≤ k ∧ k < 18 := by omega
    rw [n_10, pk_sub (by omega), ldI_n (by omega) (by omega), ldI_n (by omega) (by omega), hF]
    exact ⟨_, rfl, rfl⟩
  · have hc : ∀ x y : Option Int32, (if a.toInt < 11 then x else if 17 < a.toInt then x else y) = x := fun x y => by
      by_cases h2 : a.toInt < 11
      · rw [if_pos h2]
      · rw [if_neg h2, if_pos (by omega)]
    simp only [if_neg h1, hc, if_true]
    by_cases e0 : a = 0
    · simp only [if_pos e0, hG.1.1]; exact ⟨_, rfl, rfl⟩
    by_cases e1 : a = 1
    · simp only [if_neg e0, if_pos e1, hP.1.1]; exact ⟨_, rfl, rfl⟩
    by_cases e2 : a = 2
    · simp only [if_neg e0, if_neg e1, if_pos e2, hP.1.2.1]; exact ⟨_, rfl, rfl⟩
    obtain ⟨d, u, ⟨r1, r2, r3, r4, r5⟩, so, sn', sw, ⟨o1, o2, o3⟩, o4, o5, o6⟩ := hA
    obtain ⟨s1, s2, s3, s4, s5, s6⟩ := o5 d (by omega)
    have p0 : σ.1 1 6 = nI (plN σ 1 6) := hC.1.2.1
    have p1 : σ.1 1 11 = nI (plN σ 1 11) := hC.1.2.2.1
    by_cases e3 : a = 3
    · simp only [if_neg e0, if_neg e1, if_neg e2, if_pos e3, o1, bc_e (show so d < 65536 by omega), cr_s]
      refine ⟨_, rfl, ?_⟩
      rw [pc_st (m := so d) (P := plN σ 1 6) 16 (by omega) (fun j hj => s4 j (by rw [p0, nI_toInt (by omega)]; omega))]
      refine pc_loop (m := so d) (P := plN σ 1 6) (by omega) ?_ ?_
      · intro k hk K
        simp (disch := omega) only [f_X12_count_l93, f_X12_count_j116, jn_e, lt_e, hM.1.2.1, le_f, ldI_n, (o4 k).1, bN_0, nI_1]
        cases (so d).testBit k
        · show K (nI _ + 0, _) = K (nI _, _)
          rw [Int32.add_zero]
          rfl
        · rfl
      · intro K
        simp (disch := omega) only [f_X12_count_l93, hM.1.2.1, le_t]
    by_cases e4 : a = 4
    · simp only [if_neg e0, if_neg e1, if_neg e2, if_neg e3, if_pos e4, hP.1.2.2]; exact ⟨_, rfl, rfl⟩
    by_cases e5 : a = 5
    · simp only [if_neg e0, if_neg e1, if_neg e2, if_neg e3, if_neg e4, if_pos e5, o2, bc_e (show sn' d < 65536 by omega), cr_s]
      refine ⟨_, rfl, ?_⟩
      rw [pc_st (m := sn' d) (P := plN σ 1 11) 16 (by omega) (fun j hj => (s5 j (by rw [p1, nI_toInt (by omega)]; omega)).1)]
      refine pc_loop (m := sn' d) (P := plN σ 1 11) (by omega) ?_ ?_
      · intro k hk K
        simp (disch := omega) only [f_X12_count_l133, f_X12_count_j156, jn_e, lt_e, hM.1.2.2.1, le_f, ldI_n, (o4 k).2.1, bN_0, nI_1]
        cases (sn' d).testBit k
        · show K (nI _ + 0, _) = K (nI _, _)
          rw [Int32.add_zero]
          rfl
        · rfl
      · intro K
        simp (disch := omega) only [f_X12_count_l133, hM.1.2.2.1, le_t]
    by_cases e6 : a = 6
    · obtain ⟨w1, ⟨w2, w2'⟩, s, p, w3, w4, w5, w6, w7, w8⟩ := hU
      have ew := n_of w2
      generalize hmd : (σ.1 32 2).toInt.toNat = md at ew
      simp only [if_neg e0, if_neg e1, if_neg e2, if_neg e3, if_neg e4, if_neg e5, if_pos e6, w3, bc_e (show s < 65536 by omega), cr_s]
      refine ⟨_, rfl, ?_⟩
      rw [pc_st (m := s) (P := md) 16 (by omega) (fun j hj => (w7 j (by omega)).1)]
      refine pc_loop (m := s) (P := md) (by omega) ?_ ?_
      · intro k hk K
        have w9 := (w8 k (by omega)).1
        have e9 : τ.1 86 38 = nI md := by rw [← w1]; exact ew
        simp (disch := omega) only [f_X12_count_l168, f_X12_count_j191, jn_e, lt_e, e9, le_f, ldI_n, w9, nI_1]
        cases s.testBit k
        · show K (nI _ + 0, _) = K (nI _, _)
          rw [Int32.add_zero]
          rfl
        · rfl
      · intro K
        have e9 : τ.1 86 38 = nI md := by rw [← w1]; exact ew
        simp (disch := omega) only [f_X12_count_l168, e9, le_t]
    by_cases e7 : a = 7
    · simp only [if_neg e0, if_neg e1, if_neg e2, if_neg e3, if_neg e4, if_neg e5, if_neg e6, if_pos e7, r1, r2]; exact ⟨_, rfl, rfl⟩
    by_cases e8 : a = 8
    · simp only [if_neg e0, if_neg e1, if_neg e2, if_neg e3, if_neg e4, if_neg e5, if_neg e6, if_neg e7, if_pos e8, hT.1]; exact ⟨_, rfl, rfl⟩
    · simp only [if_neg e0, if_neg e1, if_neg e2, if_neg e3, if_neg e4, if_neg e5, if_neg e6, if_neg e7, if_neg e8]; exact ⟨_, rfl, rfl⟩
