theorem RA_more {r25 k26 k27 k28 : Nat → Int32} {m50 m51 : Int32} {m122 m123 m124 m125 : Nat → Int32} {opn on warmed : Int32} {m104 m105 m106 lim lim' : Nat → Int32} {pipes pumps pipes' pumps' : Int32} (hp : pipes.toInt ≤ pipes'.toInt) (hq : pumps.toInt ≤ pumps'.toInt) (hl : ∀ k : Nat, (k : Int) < pumps.toInt → lim' k = lim k) (h : RA r25 k26 k27 k28 m50 m51 m122 m123 m124 m125 opn on warmed m104 m105 m106 pipes pumps lim) : RA (upd (upd r25 3 0) 4 0) k26 k27 k28 0 0 m122 m123 m124 m125 opn on warmed m104 m105 m106 pipes' pumps' lim' := by
  obtain ⟨d, u, h1, so, sn, sw, h2, h3, h4, h5⟩ := h
  obtain ⟨a1, a2, a3, a4, a5, a6⟩ := h4 d (by omega)
  exact ⟨0, 0, ⟨rfl, rfl, rfl, rfl, by omega⟩, fun _ => so d, fun _ => sn d, fun _ => sw d, h2, h3, fun j _ => ⟨a1, a2, a3, fun k hk => a4 k (by omega), fun k hk => a5 k (by omega), fun k hk => by
    have h6 := a6 k hk
    refine ⟨h6.1, ?_⟩
    rw [hl k ?_]
    · exact h6.2
    · rcases Int.lt_or_le (k : Int) pumps.toInt with h7 | h7
      · exact h7
      · rw [(a5 k h7).2] at hk
        cases hk⟩, fun j hj => absurd hj (by omega)⟩
theorem upd_lt {f : Nat → Int32} {P : Int32 → Prop} {c : Int32} (h0 : 0 ≤ c.toInt) (h8 : c.toInt < 1000) (h : ∀ k : Nat, (k : Int) < c.toInt → P (f k)) {x : Int32} (hx : P x) : ∀ k : Nat, (k : Int) < (c + 1).toInt → P (upd f c.toNatClampNeg x k) := by
  intro k hk
  rw [addI (by rw [l_1]; omega) (by rw [l_1]; omega), l_1] at hk
  unfold upd
  split
  · exact hx
  · next h2 => have := clampI h0; exact h k (by omega)
theorem st_room (n : Nat) (a b : Int32) {σ τ : Hp} (h : RR n σ τ) : Ok32 n (f_X11_room a b σ) (f_X12_room a b τ) := by
  obtain ⟨hr, hr0, hr5⟩ := rr_rooms h
  simp only [f_X11_room_j47, f_X11_room_j42, f_X11_room_j25, f_X11_room_j14, f_X11_room, f_X12_room_j43, f_X12_room, f_X0_forget, f_X12_forgets, f_X5_addRoom, jn_e, lt_e, k_within, k_isIn, k_isGas, k_isRoom, k_isPipe, k_isPump, k_out, cl_s, cr_s, rf_1, rf_2, rf_4, rf_6, rf_0, e_no1, e_no2, e_no3, e_no4, e_no6, e_no7, e_refuse1, e_refuse2, e_refuse3, e_refuse4, e_refuse6, e_refuse7, n1z, n2z, n3z, n4z, n6z, z0z, z1z, i32_lt, i32_le, Int.reduceAdd, Int.reduceSub, if_true, if_false, hr, i32_eq (σ.1 1 0) 5, l_0, l_1, l_4, l_5, l_99, d_0, d_1, d_3, d_99, ile]
  by_cases h1 : 0 ≤ b.toInt ∧ b.toInt < 4
  · simp only [if_pos h1]
    by_cases h2 : a.toInt < 1
    · simp only [if_pos h2, ite_self]; exact ok_ref h
    by_cases h3 : 99 < a.toInt
    · simp only [if_neg h2, if_pos h3]; exact ok_ref h
    by_cases h4 : (σ.1 1 0).toInt = 5
    · simp only [if_neg h2, if_neg h3, if_pos h4, if_neg (show ¬ (σ.1 1 0).toInt < 5 by omega)]; exact ok_ref h
    simp only [if_neg h2, if_neg h3, if_neg h4, if_pos (show (σ.1 1 0).toInt < 5 by omega), sI_1, upd_at, reduceIte, Nat.reduceEqDiff, l_5, hr]
    have hb : (σ.1 1 0).toInt < ((5 : Nat) : Int) := by omega
    simp only [stI_ok hr0 hb, sI_1, upd_at, reduceIte, Nat.reduceEqDiff, hr, cl_s, Int32.add_sub_cancel]
    obtain ⟨hF, hP, hG, hA, hT, hU, hg, hc, hs, hd, ho⟩ := RR_forget h
    obtain ⟨p1, ⟨v1, v2⟩, ⟨q2, q3, q4, q5, q6, q7, q8, q9, q10, q11, q12⟩, p4, p5, p6, p7, p8, p9, p10, p11⟩ := hP
    have e1 : (σ.1 1 0 + 1).toInt = (σ.1 1 0).toInt + 1 := by rw [addI (by rw [l_1]; omega) (by rw [l_1]; omega), l_1]
    have p9' : ∀ k : Nat, (k : Int) < (σ.1 1 6).toInt → bd (σ.1 7 k) 0 ((σ.1 1 0).toInt - 1) ∧ bd (σ.1 8 k) 0 ((σ.1 1 0).toInt - 1) ∧ σ.1 7 k ≠ σ.1 8 k ∧ bd (σ.1 9 k) 1 9 := p9
    have p10' : ∀ k : Nat, (k : Int) < (σ.1 1 11).toInt → bd (σ.1 10 k) 0 ((σ.1 1 0).toInt - 1) := p10
    obtain ⟨⟨o1, o2, o3, o4⟩, hX⟩ := ho
    have o4' : ∀ k : Nat, (k : Int) < (σ.1 54 6).toInt → bd (σ.1 60 k) 0 ((σ.1 1 0).toInt - 1) ∧ bd (σ.1 61 k) 1 9 ∧ bd (σ.1 62 k) 1 999 := o4
    refine ⟨_, _, _, rfl, rfl, hF, ⟨⟨rfl, p1.2⟩, ⟨(show bd (σ.1 1 0 + 1) 0 5 from ⟨by omega, by omega⟩), v2⟩, ⟨congrArg (fun f => upd f (σ.1 1 0).toNatClampNeg a) q2, congrArg (fun f => upd f (σ.1 1 0).toNatClampNeg b) q3, congrArg (fun f => upd f (σ.1 1 0).toNatClampNeg 5) q4, q5, q6, q7, q8, q9, q10, q11, q12⟩, upd_lt (P := fun x => bd x 1 99) hr0 (by omega) p4 ⟨by omega, by omega⟩, bd_upd p5 ⟨by omega, by omega⟩ _, bd_upd p6 (show bd (5 : Int32) 0 9 from ⟨by decide, by decide⟩) _, p7, p8, fun k hk => ?_, fun k hk => ?_, p11⟩, RG_mono (Nat.le_succ n) hG, hA, hT, hU, hg, hc, hs, hd, ⟨o1, o2, o3, fun k hk => ?_⟩, hX⟩
    · obtain ⟨⟨x1, x2⟩, ⟨x3, x4⟩, x5⟩ := p9' k hk
      show bd (σ.1 7 k) 0 ((σ.1 1 0 + 1).toInt - 1) ∧ bd (σ.1 8 k) 0 ((σ.1 1 0 + 1).toInt - 1) ∧ σ.1 7 k ≠ σ.1 8 k ∧ bd (σ.1 9 k) 1 9
      rw [e1]
      exact ⟨⟨x1, by omega⟩, ⟨x3, by omega⟩, x5⟩
    · obtain ⟨x1, x2⟩ := p10' k hk
      show bd (σ.1 10 k) 0 ((σ.1 1 0 + 1).toInt - 1)
      rw [e1]
      exact ⟨x1, by omega⟩
    · obtain ⟨⟨x1, x2⟩, x3⟩ := o4' k hk
      show bd (σ.1 60 k) 0 ((σ.1 1 0 + 1).toInt - 1) ∧ bd (σ.1 61 k) 1 9 ∧ bd (σ.1 62 k) 1 999
      rw [e1]
      exact ⟨⟨x1, by omega⟩, x3⟩
  · simp only [if_neg h1, ite_self]; exact ok_ref h
theorem st_pipe (n : Nat) (a b c : Int32) {σ τ : Hp} (h : RR n σ τ) : Ok32 n (f_X11_pipe a b c σ) (f_X12_pipe a b c τ) := by
  obtain ⟨hr, hr0, hr5⟩ := rr_rooms h
  obtain ⟨hq, hq0, hq5⟩ := rr_pipes h
  simp only [f_X11_pipe_j77, f_X11_pipe_j72, f_X11_pipe_j54, f_X11_pipe_j38, f_X11_pipe_j33, f_X11_pipe, f_X12_pipe_j21, f_X12_pipe_j56, f_X12_pipe, f_X0_forget, f_X12_forgets, f_X5_addPipe, jn_e, lt_e, k_within, k_isIn, k_isGas, k_isRoom, k_isPipe, k_isPump, k_out, cl_s, cr_s, rf_1, rf_2, rf_4, rf_6, rf_0, e_no1, e_no2, e_no3, e_no4, e_no6, e_no7, e_refuse1, e_refuse2, e_refuse3, e_refuse4, e_refuse6, e_refuse7, n1z, n2z, n3z, n4z, n6z, z0z, z1z, i32_lt, i32_le, Int.reduceAdd, Int.reduceSub, if_true, if_false, hr, hq, i32_eq (σ.1 1 6) 12, l_0, l_1, l_9, l_12, d_0, d_1, d_9, ile]
  by_cases h1 : 0 ≤ a.toInt ∧ a.toInt < (σ.1 1 0).toInt
  · simp only [if_pos h1]
    by_cases h0 : 0 ≤ b.toInt ∧ b.toInt < (σ.1 1 0).toInt
    · simp only [if_pos h0]
      by_cases hab : a = b
      · simp only [if_pos hab, ite_self]; exact ok_ref h
      simp only [if_neg hab]
      by_cases h2 : c.toInt < 1
      · simp only [if_pos h2, ite_self]; exact ok_ref h
      by_cases h3 : 9 < c.toInt
      · simp only [if_neg h2, if_pos h3]; exact ok_ref h
      by_cases h4 : (σ.1 1 6).toInt = 12
      · simp only [if_neg h2, if_neg h3, if_pos h4, if_neg (show ¬ (σ.1 1 6).toInt < 12 by omega)]; exact ok_ref h
      have hb : (σ.1 1 6).toInt < ((12 : Nat) : Int) := by omega
      simp only [if_neg h2, if_neg h3, if_neg h4, if_pos (show (σ.1 1 6).toInt < 12 by omega), stI_ok hq0 hb, sI_1, upd_at, reduceIte, Nat.reduceEqDiff, l_12, hq, cl_s, Int32.add_sub_cancel]
      obtain ⟨hF, hP, hG, hA, hT, hU, hg, hc, hs, hd, ho⟩ := h
      obtain ⟨p1, ⟨v1, v2, v3⟩, ⟨q2, q3, q4, q5, q6, q7, q8, q9, q10, q11, q12⟩, p4, p5, p6, p7, p8, p9, p10⟩ := hP
      have e1 : (σ.1 1 6 + 1).toInt = (σ.1 1 6).toInt + 1 := by rw [addI (by rw [l_1]; omega) (by rw [l_1]; omega), l_1]
      refine ⟨_, _, _, rfl, rfl, hF, ⟨⟨p1.1, rfl, p1.2.2⟩, ⟨v1, (show bd (σ.1 1 6 + 1) 0 12 from ⟨by omega, by omega⟩), v3⟩, ⟨q2, q3, q4, q5, q6, congrArg (fun f => upd f (σ.1 1 6).toNatClampNeg a) q7, congrArg (fun f => upd f (σ.1 1 6).toNatClampNeg b) q8, congrArg (fun f => upd f (σ.1 1 6).toNatClampNeg c) q9, q10, q11, q12⟩, p4, p5, p6, p7, p8, fun k hk => ?_, p10⟩, RG_mono (Nat.le_succ n) hG, RA_more (show (σ.1 1 6).toInt ≤ (σ.1 1 6 + 1).toInt by omega) (Int.le_refl _) (fun _ _ => rfl) hA, hT, hU, hg, hc, hs, hd, ho⟩
      replace hk : (k : Int) < (σ.1 1 6 + 1).toInt := hk
      rw [e1] at hk
      show bd (upd (σ.1 7) _ a k) 0 ((σ.1 1 0).toInt - 1) ∧ bd (upd (σ.1 8) _ b k) 0 ((σ.1 1 0).toInt - 1) ∧ upd (σ.1 7) _ a k ≠ upd (σ.1 8) _ b k ∧ bd (upd (σ.1 9) _ c k) 1 9
      unfold upd
      split
      · exact ⟨⟨by omega, by omega⟩, ⟨by omega, by omega⟩, hab, ⟨by omega, by omega⟩⟩
      · have := clampI hq0
        exact p9 k (by omega)
    · simp only [if_neg h0, ite_self]; exact ok_ref h
  · simp only [if_neg h1, ite_self]; exact ok_ref h
theorem st_spray (n : Nat) (a b : Int32) {σ τ : Hp} (h : RR n σ τ) : Ok32 n (f_X11_spray a b σ) (f_X12_spray a b τ) := by
  obtain ⟨hF, hP, hG, hA, hT, hU, hg, hc, hs, hd, ho⟩ := id h
  obtain ⟨⟨s1, s2, ⟨hq0, hq5⟩, s4⟩, ⟨t1, t2, t3, t4, t5⟩, b1, b2, b3, b4, b5⟩ := hs
  have hq : τ.1 86 75 = σ.1 77 1 := s1.symm
  simp only [f_X11_spray_j70, f_X11_spray_j49, f_X11_spray_j44, f_X11_spray_j25, f_X11_spray_j15, f_X11_spray, f_X12_spray_j44, f_X12_spray, f_X9_addSpray, jn_e, lt_e, k_within, k_isIn, k_isGas, k_isRoom, k_isPipe, k_isPump, k_out, cl_s, cr_s, rf_1, rf_2, rf_4, rf_6, rf_0, e_no1, e_no2, e_no3, e_no4, e_no6, e_no7, e_refuse1, e_refuse2, e_refuse3, e_refuse4, e_refuse6, e_refuse7, n1z, n2z, n3z, n4z, n6z, z0z, z1z, i32_lt, i32_le, Int.reduceAdd, Int.reduceSub, if_true, if_false, hq, i32_eq (σ.1 77 1) 20, l_0, l_1, l_8, l_9999, l_20, d_0, d_7, d_9999, ile]
  by_cases h1 : 0 ≤ a.toInt ∧ a.toInt < 8
  · simp only [if_pos h1]
    by_cases h2 : b.toInt < 0
    · simp only [if_pos h2, ite_self]; exact ok_ref h
    by_cases h3 : 9999 < b.toInt
    · simp only [if_neg h2, if_pos h3]; exact ok_ref h
    by_cases h4 : (σ.1 77 1).toInt = 20
    · simp only [if_neg h2, if_neg h3, if_pos h4, if_neg (show ¬ (σ.1 77 1).toInt < 20 by omega)]; exact ok_ref h
    have hb : (σ.1 77 1).toInt < ((20 : Nat) : Int) := by omega
    simp only [if_neg h2, if_neg h3, if_neg h4, if_pos (show (σ.1 77 1).toInt < 20 by omega), stI_ok hq0 hb, sI_1, upd_at, reduceIte, Nat.reduceEqDiff, hq, cl_s, l_20]
    have e1 : (σ.1 77 1 + 1).toInt = (σ.1 77 1).toInt + 1 := by rw [addI (by rw [l_1]; omega) (by rw [l_1]; omega), l_1]
    exact ⟨_, _, _, rfl, rfl, hF, hP, RG_mono (Nat.le_succ n) hG, hA, hT, hU, hg, hc, ⟨⟨rfl, s2, (show bd (σ.1 77 1 + 1) 0 20 from ⟨by omega, by omega⟩), s4⟩, ⟨t1, congrArg (fun f => upd f (σ.1 77 1).toNatClampNeg a) t2, congrArg (fun f => upd f (σ.1 77 1).toNatClampNeg b) t3, t4, t5⟩, b1, bd_upd b2 ⟨by omega, by omega⟩ _, bd_upd b3 ⟨by omega, by omega⟩ _, b4, b5⟩, hd, ho⟩
  · simp only [if_neg h1, ite_self]; exact ok_ref h
theorem nar_b {v : Int32} (h : v = 0 ∨ v = 1) : vp_nar .boolean v = v := by rcases h with h | h <;> subst h <;> rfl
theorem st_seen (n : Nat) (a b : Int32) (hb01 : b = 0 ∨ b = 1) {σ τ : Hp} (h : RR n σ τ) : Ok32 n (f_X11_seen a b σ) (f_X12_seen a b τ) := by
  obtain ⟨hF, hP, hG, hA, hT, hU, hg, hc, hs, hd, ho⟩ := id h
  obtain ⟨⟨s1, s2, s3, ⟨hq0, hq5⟩⟩, ⟨t1, t2, t3, t4, t5⟩, b1, b2, b3, b4, b5⟩ := hs
  have hq : τ.1 86 76 = σ.1 77 4 := s2.symm
  simp only [f_X11_seen_j57, f_X11_seen_j36, f_X11_seen_j31, f_X11_seen_j12, f_X11_seen, f_X12_seen_j26, f_X12_seen, f_X9_addSight, jn_e, lt_e, k_within, k_isIn, k_isGas, k_isRoom, k_isPipe, k_isPump, k_out, cl_s, cr_s, rf_1, rf_2, rf_4, rf_6, rf_0, e_no1, e_no2, e_no3, e_no4, e_no6, e_no7, e_refuse1, e_refuse2, e_refuse3, e_refuse4, e_refuse6, e_refuse7, n1z, n2z, n3z, n4z, n6z, z0z, z1z, i32_lt, i32_le, Int.reduceAdd, Int.reduceSub, if_true, if_false, hq, i32_eq (σ.1 77 4) 20, l_0, l_1, l_9999, l_20, d_0, d_9999, ile]
  by_cases h2 : a.toInt < 0
  · simp only [if_pos h2, ite_self]; exact ok_ref h
  by_cases h3 : 9999 < a.toInt
  · simp only [if_neg h2, if_pos h3]; exact ok_ref h
  by_cases h4 : (σ.1 77 4).toInt = 20
  · simp only [if_neg h2, if_neg h3, if_pos h4, if_neg (show ¬ (σ.1 77 4).toInt < 20 by omega)]; exact ok_ref h
  have hb : (σ.1 77 4).toInt < ((20 : Nat) : Int) := by omega
  simp only [if_neg h2, if_neg h3, if_neg h4, if_pos (show (σ.1 77 4).toInt < 20 by omega), stI_ok hq0 hb, stZ_ok hq0 hb, nar_b hb01, sI_1, upd_at, reduceIte, Nat.reduceEqDiff, hq, cl_s, l_20]
  have e1 : (σ.1 77 4 + 1).toInt = (σ.1 77 4).toInt + 1 := by rw [addI (by rw [l_1]; omega) (by rw [l_1]; omega), l_1]
  refine ⟨_, _, _, rfl, rfl, hF, hP, RG_mono (Nat.le_succ n) hG, hA, hT, hU, hg, hc, ⟨⟨s1, rfl, s3, (show bd (σ.1 77 4 + 1) 0 20 from ⟨by omega, by omega⟩)⟩, ⟨t1, t2, t3, congrArg (fun f => upd f (σ.1 77 4).toNatClampNeg a) t4, congrArg (fun f => upd f (σ.1 77 4).toNatClampNeg b) t5⟩, b1, b2, b3, bd_upd b4 ⟨by omega, by omega⟩ _, fun k => ?_⟩, hd, ho⟩
  show upd (σ.1 82) _ b k = 0 ∨ upd (σ.1 82) _ b k = 1
  unfold upd
  split
  · exact hb01
  · exact b5 k
theorem st_offer (n : Nat) (a b c : Int32) {σ τ : Hp} (h : RR n σ τ) : Ok32 n (f_X11_offer a b c σ) (f_X12_offer a b c τ) := by
  obtain ⟨hr, hr0, hr5⟩ := rr_rooms h
  obtain ⟨hF, hP, hG, hA, hT, hU, hg, hc, hs, hd, ho⟩ := id h
  obtain ⟨⟨o1, ⟨hq0, hq5⟩, ⟨o2, o3, o4⟩, o5⟩, hX⟩ := ho
  have hq : τ.1 86 80 = σ.1 54 6 := o1.symm
  simp only [f_X11_offer_j91, f_X11_offer_j66, f_X11_offer_j61, f_X11_offer_j36, f_X11_offer_j31, f_X11_offer_j20, f_X11_offer, f_X12_offer_j57, f_X12_offer_j24, f_X12_offer_j51, f_X12_offer, f_X7_addOffer, jn_e, lt_e, k_within, k_isIn, k_isGas, k_isRoom, k_isPipe, k_isPump, k_out, cl_s, cr_s, rf_1, rf_2, rf_4, rf_6, rf_0, e_no1, e_no2, e_no3, e_no4, e_no6, e_no7, e_refuse1, e_refuse2, e_refuse3, e_refuse4, e_refuse6, e_refuse7, n1z, n2z, n3z, n4z, n6z, z0z, z1z, i32_lt, i32_le, Int.reduceAdd, Int.reduceSub, if_true, if_false, hr, hq, i32_eq (σ.1 54 6) 6, l_0, l_1, l_6, l_9, l_999, d_0, d_9999, ile]
  by_cases h1 : 0 ≤ a.toInt ∧ a.toInt < (σ.1 1 0).toInt
  · simp only [if_pos h1]
    by_cases h2 : b.toInt < 1
    · simp only [if_pos h2, ite_self]; exact ok_ref h
    by_cases h3 : c.toInt < 1
    · simp only [if_neg h2, if_pos h3, ite_self]; exact ok_ref h
    by_cases h4 : 9 < b.toInt
    · simp only [if_neg h2, if_neg h3, if_pos h4]; exact ok_ref h
    by_cases h5 : 999 < c.toInt
    · simp only [if_neg h2, if_neg h3, if_neg h4, if_pos h5]; exact ok_ref h
    by_cases h6 : (σ.1 54 6).toInt = 6
    · simp only [if_neg h2, if_neg h3, if_neg h4, if_neg h5, if_pos h6, if_neg (show ¬ (σ.1 54 6).toInt < 6 by omega)]; exact ok_ref h
    have hb : (σ.1 54 6).toInt < ((6 : Nat) : Int) := by omega
    simp only [if_neg h2, if_neg h3, if_neg h4, if_neg h5, if_neg h6, if_pos (show (σ.1 54 6).toInt < 6 by omega), stI_ok hq0 hb, sI_1, upd_at, reduceIte, Nat.reduceEqDiff, hq, cl_s, l_6]
    have e1 : (σ.1 54 6 + 1).toInt = (σ.1 54 6).toInt + 1 := by rw [addI (by rw [l_1]; omega) (by rw [l_1]; omega), l_1]
    refine ⟨_, _, _, rfl, rfl, hF, hP, RG_mono (Nat.le_succ n) hG, hA, hT, hU, hg, hc, hs, hd, ⟨rfl, (show bd (σ.1 54 6 + 1) 0 6 from ⟨by omega, by omega⟩), ⟨congrArg (fun f => upd f (σ.1 54 6).toNatClampNeg a) o2, congrArg (fun f => upd f (σ.1 54 6).toNatClampNeg b) o3, congrArg (fun f => upd f (σ.1 54 6).toNatClampNeg c) o4⟩, fun k hk => ?_⟩, hX⟩
    replace hk : (k : Int) < (σ.1 54 6 + 1).toInt := hk
    rw [e1] at hk
    show bd (upd (σ.1 60) _ a k) 0 ((σ.1 1 0).toInt - 1) ∧ bd (upd (σ.1 61) _ b k) 1 9 ∧ bd (upd (σ.1 62) _ c k) 1 999
    unfold upd
    split
    · exact ⟨⟨by omega, by omega⟩, ⟨by omega, by omega⟩, ⟨by omega, by omega⟩⟩
    · have := clampI hq0
      exact o5 k (by omega)
  · simp only [if_neg h1, ite_self]; exact ok_ref h
