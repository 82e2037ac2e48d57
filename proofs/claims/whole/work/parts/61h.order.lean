theorem m_others {P set on : Nat} {τ : Hp} (hset : set < 256) (hP : P ≤ 8) (h22 : τ.1 86 22 = nI P) (ho : OnR τ on) (k68 : Int32 → Option (Int32 × Hp)) : ∀ (e p m : Nat), p + e = P → e + 1 < m → ∃ v, lp (f_X12_order_l23 (nI set) τ k68) m ((0 : Int32), nI p) = k68 v ∧ ((v = 0 ∧ ∀ j, p ≤ j → j < P → set.testBit j = true → on.testBit j = false) ∨ (v = 1 ∧ ∃ j, set.testBit j = true ∧ on.testBit j = true)) := by
  intro e
  induction e with
  | zero =>
    intro p m h1 h2
    match m, h2 with
    | m + 1, h2 =>
      refine ⟨0, ?_, Or.inl ⟨rfl, fun j h3 h4 => absurd h4 (by omega)⟩⟩
      rw [lp_succ]
      generalize lp (f_X12_order_l23 (nI set) τ k68) m = K
      unfold f_X12_order_l23
      dsimp only
      rw [h22, le_t (by omega) (by omega)]
  | succ e ih =>
    intro p m h1 h2
    match m, h2 with
    | m + 2, h2 =>
      have hF : ∀ K, f_X12_order_l23 (nI set) τ k68 K (0, nI p) = if set.testBit p = true then (if on.testBit p = true then K (1, nI (p + 1)) else K (0, nI (p + 1))) else K (0, nI (p + 1)) := fun K => by
        unfold f_X12_order_l23 f_X12_order_j61 f_X12_order_j60
        dsimp only
        rw [h22, le_f (by omega) (by omega), if_pos rfl, jn_e, jn_e, bit1 (by omega) (by omega), ldI_n (by omega) (by omega), ho p, bN_0]
        simp only [lt_e, nI_1]
      rw [lp_succ, hF]
      by_cases c1 : set.testBit p = true
      · rw [if_pos c1]
        by_cases c2 : on.testBit p = true
        · rw [if_pos c2, lp_succ]
          refine ⟨1, ?_, Or.inr ⟨rfl, p, c1, c2⟩⟩
          generalize lp (f_X12_order_l23 (nI set) τ k68) m = K
          unfold f_X12_order_l23
          dsimp only
          rw [if_neg (show ¬ (1 : Int32) = 0 by decide), ite_self]
        · rw [if_neg c2]
          obtain ⟨v, a1, a2⟩ := ih (p + 1) (m + 1) (by omega) (by omega)
          refine ⟨v, a1, ?_⟩
          rcases a2 with ⟨b1, b2⟩ | b
          · refine Or.inl ⟨b1, fun j h3 h4 h5 => ?_⟩
            by_cases e1 : j = p
            · rw [e1]; exact Bool.eq_false_iff.2 c2
            · exact b2 j (by omega) h4 h5
          · exact Or.inr b
      · rw [if_neg c1]
        obtain ⟨v, a1, a2⟩ := ih (p + 1) (m + 1) (by omega) (by omega)
        refine ⟨v, a1, ?_⟩
        rcases a2 with ⟨b1, b2⟩ | b
        · refine Or.inl ⟨b1, fun j h3 h4 h5 => ?_⟩
          by_cases e1 : j = p
          · rw [e1] at h5; exact absurd h5 c1
          · exact b2 j (by omega) h4 h5
        · exact Or.inr b
theorem bc_some (a : Int32) : ∃ v, f_J6_bitCount_0f7a4 a = some v := ⟨_, rfl⟩
theorem RW_53 {mo : Nat} {σ σ' τ : Hp} (h : RW mo σ τ) (e : ∀ a, a ≠ 53 → σ'.1 a = σ.1 a) : RW mo σ' τ := by
  obtain ⟨pl, x, k, ⟨hB, hC, hM⟩, m, ⟨g1, g2, l1⟩, ⟨u0, u1, u2⟩, hU⟩ := h
  refine ⟨pl, x, k, ⟨hB, ?_, hM⟩, m, ⟨by rw [e 14 (by omega)]; exact g1, g2, l1⟩, ⟨by rw [e 13 (by omega)]; exact u0, u1, u2⟩, ?_⟩
  · unfold PC at hC ⊢
    rw [e 1 (by omega), e 2 (by omega), e 3 (by omega), e 4 (by omega), e 5 (by omega), e 6 (by omega), e 7 (by omega), e 8 (by omega), e 9 (by omega), e 10 (by omega), e 11 (by omega), e 12 (by omega)]
    exact hC
  · rw [e 32 (by omega), e 33 (by omega), e 34 (by omega), e 36 (by omega), e 37 (by omega), e 38 (by omega), e 39 (by omega), e 40 (by omega), e 41 (by omega), e 42 (by omega), e 43 (by omega), e 44 (by omega), e 45 (by omega), e 46 (by omega), e 47 (by omega), e 48 (by omega), e 49 (by omega), e 50 (by omega), e 51 (by omega)]
    exact hU
theorem st_order (n : Nat) (hn : n < 512) (a b : Int32) {σ τ : Hp} (h : RR n σ τ) : Ok32 n (f_X11_order a b σ) (f_X12_order a b τ) := by
  obtain ⟨hRW, h15⟩ := RR_RW hn h
  obtain ⟨hB, hC, hM⟩ := RR_pl h
  have b2 := hB.1.2.2.1
  have s2 : plN σ 1 15 < 2 ^ 8 := hB.1.2.2.2.2
  generalize hon : plN σ 1 15 = on at hRW h15 s2
  generalize hP : plN σ 1 11 = P at b2
  have e11 : σ.1 1 11 = nI P := by rw [← hP]; exact hC.1.2.2.1
  have e22 : τ.1 86 22 = nI P := by rw [← hP]; exact hM.1.2.2.1
  have i11 : (σ.1 1 11).toInt = (P : Int) := by rw [e11, nI_toInt (by omega)]
  have ho : OnR τ on := fun k => by rw [← hon]; exact hM.1.2.2.2.2 k
  -- the warmed
  obtain ⟨w, w1, w2, w3, hbon⟩ : ∃ w, σ.1 13 1 = nI w ∧ w < 256 ∧ (∀ k, τ.1 106 k = bN w k) ∧ ∀ j, P ≤ j → on.testBit j = false := by
    obtain ⟨-, -, -, hA, -⟩ := h
    obtain ⟨d, u, -, so, sn, sw, ⟨a0, a1, a2⟩, a4, a5, -⟩ := hA
    obtain ⟨c1, c2, c3, c4, c5, -⟩ := a5 d (by omega)
    have q2 : on = sn d := (nI_eq (by omega) (by omega)).1 (h15.symm.trans a1)
    exact ⟨sw d, a2, c3, fun k => (a4 k).2.2, fun j hj => by rw [q2]; exact (c5 j (by omega)).1⟩
  obtain ⟨v0, hv0⟩ := bc_some a
  have hcn : Ok32 n (f_X11_order_j33 a b σ 1) (cl (f_X12_no (-1 : Int32) τ) fun v13 σ14 => some (v13, σ14)) := by
    have e : f_X11_order_j33 a b σ 1 = some (-1, rfC 1 σ) := by
      unfold f_X11_order_j33 f_X11_order_j46 f_X11_order_j60 f_X11_order_j98
      simp only [jn_e, hv0, cr_s, rf_1, cl_s, n1z, ite_self]
    rw [e, e_no1, cl_s]
    exact ok_ref h
  have hj14 : f_X12_order_j19 a b τ 1 = cl (f_X12_no (-1 : Int32) τ) fun v13 σ14 => some (v13, σ14) := by
    unfold f_X12_order_j19
    obtain ⟨M, hM', hl⟩ := lp_FU
    rw [jn_e, hl]
    generalize lp (f_X12_order_l23 a τ (f_X12_order_j68 a b τ)) M = K
    unfold f_X12_order_l23
    dsimp only
    rw [if_neg (show ¬ (1 : Int32) = 0 by decide)]
    unfold f_X12_order_j68
    rw [if_neg (show ¬ (1 : Int32) = 0 by decide), ite_self]
  unfold f_X11_order f_X12_order f_X11_order_j28 f_X12_order_j14
  rw [jn_e, jn_e, jn_e, jn_e, hj14]
  by_cases ha : a < 0
  · rw [if_pos ha, if_pos ha]
    exact hcn
  rw [if_neg ha, if_neg ha]
  obtain ⟨set, hs1, rfl⟩ := nI_of ha
  have h2P := two16 (p := P) (by omega)
  have h2P8 : 2 ^ P ≤ 256 := Nat.pow_le_pow_right (n := 2) (by omega) b2
  have hpos : 0 < 2 ^ P := Nat.two_pow_pos P
  have hsh := sh31 P (by omega)
  rw [e11, e22, hsh.1, pk_shrN hs1 (nI P) P hsh.2, show ((1 : Int32) <<< nI P) = nI (2 ^ P) from by have := shl16 P (by omega); rw [hsh.1] at this; exact this]
  by_cases hset : set < 2 ^ P
  · rw [Nat.div_eq_of_lt hset, if_pos (show nI 0 = 0 from rfl), if_pos ((nI_ltI hs1 (by omega)).2 hset), h15, nI_and (by omega) (by omega)]
    have hset8 : set < 256 := by omega
    have hbset : ∀ j, set.testBit j = true → j < P := fun j hj => by
      apply Nat.lt_of_not_le
      intro hh
      rw [tb_big hset hh] at hj
      cases hj
    obtain ⟨v, m1, m2⟩ := m_others hset8 b2 e22 ho (f_X12_order_j68 (nI set) b τ) P 0 FU (by omega) (by rw [FU_e]; omega)
    have hm19 : f_X12_order_j19 (nI set) b τ 0 = f_X12_order_j68 (nI set) b τ v := by
      unfold f_X12_order_j19
      rw [jn_e]
      exact m1
    rw [hm19]
    rcases m2 with ⟨rfl, hd0⟩ | ⟨rfl, j, j1, j2⟩
    · have hdis : ∀ k, set.testBit k = true → on.testBit k = false := fun k hk => hd0 k (Nat.zero_le _) (hbset k hk) hk
      have hand : set &&& on = 0 := by
        apply Nat.eq_of_testBit_eq
        intro j
        rw [Nat.testBit_and, Nat.zero_testBit]
        cases e : set.testBit j
        · rfl
        · rw [hdis j e]; rfl
      rw [hand, if_pos (show nI 0 = 0 from rfl)]
      have hpc16 : pcN set 16 = pcN set 8 := pc_st 16 (by omega) (fun j hj => tb_big (b := 8) (by omega) hj)
      have hpc8 := pc_le set 8
      unfold f_X11_order_j33 f_X11_order_j46 f_X12_order_j68
      rw [jn_e, if_pos rfl, jn_e]
      by_cases hb0 : 0 ≤ b
      · rw [if_pos hb0, if_pos hb0, bc_e (by omega), m_bits hset8]
        dsimp only
        rw [cr_s, cr_s, jn_e, hpc16]
        obtain ⟨i, hi, rfl⟩ := nI_of (x := b) (fun g => by rw [i32_lt] at g; rw [i32_le] at hb0; omega)
        by_cases h6 : pcN set 8 ≤ 6
        · rw [if_pos (show nI (pcN set 8) ≤ (6 : Int32) from nI_le (b := 6) h6 (by omega)), if_pos (show nI (pcN set 8) ≤ (6 : Int32) from nI_le (b := 6) h6 (by omega))]
          unfold f_X11_order_j60 f_X12_order_j102 f_X11_order_j98
          rw [rf_0, cl_s, jn_e, if_pos rfl, h15, w1, if_pos rfl, m_bits hset8, cr_s, hpc16]
          have hsubset : ∀ S, sub S set → on ||| S < 2 ^ 8 ∧ ∀ j : Nat, (σ.1 1 11).toInt ≤ j → (on ||| S).testBit j = false := fun S hS => by
            have := sub_le hS
            refine ⟨Nat.or_lt_two_pow (by omega) (by omega), fun j hj => ?_⟩
            rw [Nat.testBit_or, hbon j (by omega), Bool.false_or]
            cases hx : S.testBit j
            · rfl
            · have := hbset j (hS j hx); omega
          have hFC : set &&& w = 0 → FC (okF σ on w) set on σ := fun hsw σ' he S hS p hp hps => by
            obtain ⟨s3, s4⟩ := hsubset S hS
            have hOn : OnR (sR τ 105 (fun k => bN (on ||| S) k)) (on ||| S) := fun k => rfl
            have hFR : FRD τ (sR τ 105 (fun k => bN (on ||| S) k)) := ⟨fr_r (by decide) (fr_0 _ _), fun _ _ _ _ => rfl⟩
            have hR0 := RW_on hRW hFR hOn s3 s4
            have hR1 := RW_53 hR0 he
            obtain ⟨R, r1, r2, ρ1, r3, -⟩ := FBW (a := nI p) (k := 1) (Or.inr rfl) ⟨by rw [nI_toInt (by omega)]; omega, by rw [nI_toInt (by omega)]; omega⟩ hR1
            obtain ⟨R', r1', r2', ρ1', r3', -⟩ := FBW (a := nI p) (k := 1) (Or.inr rfl) ⟨by rw [nI_toInt (by omega)]; omega, by rw [nI_toInt (by omega)]; omega⟩ hR0
            have eR : R = R' := (Prod.mk.inj (Option.some.inj (r3.symm.trans r3'))).1
            refine ⟨R, r1, ?_⟩
            have hwp : w.testBit p = false := by
              have h1 := congrArg (fun x => Nat.testBit x p) hsw
              rw [Nat.testBit_and, hps, Bool.true_and, Nat.zero_testBit] at h1
              exact h1
            unfold okF
            rw [hwp, r1', ← eR, Bool.not_false, Bool.true_and]
            exact decide_eq_decide.2 ⟨fun g => Option.some.inj g, fun g => by rw [g]⟩
          obtain ⟨r, σ', c1, c2, c3⟩ := ord_nth (al := okF σ on w) (i := i) hset8 (by omega) w2 hi (fun p S hp => by unfold okF; rw [hp]; rfl) hFC
          rw [c1, cl_s]
          have h0s : sub 0 set := fun k hk => by rw [Nat.zero_testBit] at hk; cases hk
          have hkc : KCk σ σ' := KC_fr (l := [53]) (by decide) (fun a ha => c2 a (fun e => ha (by rw [e]; exact List.mem_singleton.2 rfl)))
          have hkc2 : ∀ a, a ∈ [13, 14, 15, 16, 17, 20, 21, 22, 23] → σ'.1 a = σ.1 a := fun a ha => c2 a (fun e => by subst e; revert ha; decide)
          rw [jn_e, jn_e]
          unfold f_X12_order_j143 f_X12_order_j132
          by_cases hip : pcN set 8 ≤ i
          · rw [le_t hip (by omega)]
            have hr : r = -9 := ordA_u c3 (by
              by_cases hc : can (okF σ on w) set 0
              · obtain ⟨l, hl⟩ := can_gr set 0 (by omega) h0s hc
                have := pth_len hset8 l 0 h0s (gr_pth l 0 hl)
                have hz : pcN 0 8 = 0 := rfl
                exact Or.inl ⟨l, hl, Or.inr ⟨by omega, rfl⟩⟩
              · exact Or.inr ⟨hc, rfl⟩)
            rw [hr]
            exact ⟨-9, σ', τ, rfl, rfl, RR_same (RR_keep h hkc (KM_0 τ) hkc2 (fun _ _ => rfl) rfl)⟩
          · rw [le_f (by omega) (by omega)]
            have hne : set ≠ 0 := fun e => by rw [e] at hip; exact hip (by show 0 ≤ i; omega)
            obtain ⟨bb, τ', d1, d2, d3, d4, d5, d6⟩ := m_find hRW hset8 hne (by omega) h6 b2 i11 e22 hdis hbon hbset w3 ho
            rw [d1, cl_s, oB_0]
            have e105 : τ'.1 105 = τ.1 105 := funext fun k => by rw [d2 k, ho k]
            have hkm : RR n σ' τ' := by
              refine RR_keep h hkc ⟨fun a ha => ?_, fun j hj => d4 j (fun e => by subst e; revert hj; decide) (fun e => by subst e; revert hj; decide) (fun e => by subst e; revert hj; decide)⟩ hkc2 (fun a ha => d3 a (fun hb => by revert ha hb; revert a; decide)) (d4 23 (by omega) (by omega) (by omega))
              by_cases ea : a = 105
              · rw [ea]; exact e105
              · refine d3 a (fun hb => ?_)
                have : ∀ a, a ∈ cM → a ≠ 105 → a ∉ [86, 105, 120, 121, 126, 127] := by decide
                exact this a ha ea hb
            cases bb
            · rw [if_neg (by decide)]
              have hr : r = -9 := ordA_u c3 (Or.inr ⟨d6 rfl, rfl⟩)
              rw [hr]
              exact ⟨-9, σ', τ', rfl, rfl, RR_same hkm⟩
            · rw [if_pos rfl]
              obtain ⟨l, l1, l2⟩ := d5 rfl
              have hlen := pth_len hset8 l 0 h0s (gr_pth l 0 l1)
              have hz : pcN 0 8 = 0 := rfl
              have hil : i < l.length := by omega
              have hgi : l[i]? = some l[i] := List.getElem?_eq_getElem hil
              rw [ldI_n (by omega) (by omega), l2 i _ hgi]
              have hr : r = nI l[i] := ordA_u c3 (Or.inl ⟨l, l1, Or.inl ⟨_, hgi, rfl⟩⟩)
              rw [hr]
              exact ⟨nI l[i], σ', τ', rfl, rfl, RR_same hkm⟩
        · rw [if_neg (show ¬ nI (pcN set 8) ≤ (6 : Int32) from nI_ge (a := 6) (by omega) (by omega)), if_neg (show ¬ nI (pcN set 8) ≤ (6 : Int32) from nI_ge (a := 6) (by omega) (by omega))]
          unfold f_X11_order_j60 f_X12_order_j102 f_X11_order_j98
          rw [rf_6, cl_s, jn_e, if_neg (by decide), if_neg (by decide), e_no6, cl_s]
          exact ok_ref h
      · obtain ⟨v1, hv1⟩ := bc_some (nI set)
        rw [if_neg hb0, if_neg hb0, hv1]
        dsimp only
        rw [cr_s, jn_e]
        unfold f_X11_order_j60 f_X12_order_j102 f_X11_order_j98
        simp only [rf_4, cl_s, jn_e, n4z, ite_self, e_no4]
        exact ok_ref h
    · have hand : ¬ nI (set &&& on) = 0 := by
        refine nI_ne0 (Nat.pos_of_ne_zero (fun e => ?_)) (Nat.lt_of_le_of_lt Nat.and_le_left hs1)
        have h1 := congrArg (fun x => Nat.testBit x j) e
        rw [Nat.testBit_and, j1, j2, Nat.zero_testBit] at h1
        cases h1
      rw [if_neg hand]
      unfold f_X12_order_j68
      rw [if_neg (by decide)]
      exact hcn
  · have hd0 : 0 < set / 2 ^ P := Nat.div_pos (by omega) hpos
    have hd1 : set / 2 ^ P ≤ set := Nat.div_le_self _ _
    rw [if_neg (nI_ne0 hd0 (by omega)), if_neg (fun g => hset ((nI_ltI hs1 (by omega)).1 g))]
    exact hcn
