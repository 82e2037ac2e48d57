def cR : List Nat := [1, 2, 3, 4, 5, 6, 7, 8, 9, 10, 11, 12, 13, 14, 15, 16, 17, 20, 21, 22, 23, 25, 26, 27, 28, 30, 60, 61, 62, 64, 68, 69, 73, 74, 75, 76, 77, 78, 79, 80, 81, 82, 85]
def mR : List Nat := [87, 88, 89, 90, 91, 92, 93, 94, 95, 96, 97, 98, 99, 100, 101, 102, 103, 104, 105, 106, 115, 122, 123, 124, 125, 132, 135, 136, 137, 138, 139, 140, 141, 142, 143, 144, 145, 146, 148, 149, 150, 151]
theorem RR_rule {n : Nat} {σ τ σ' τ' : Hp} (h : RR n σ τ) (kc : ∀ a, a ∈ cR → σ'.1 a = σ.1 a) (k54 : σ'.1 54 6 = σ.1 54 6) (k29 : σ'.1 29 1 = 0) (km : ∀ a, a ∈ mR → τ'.1 a = τ.1 a) (kf : ∀ j, j ∈ [20, 21, 22, 23, 50, 51, 75, 76, 80] → τ'.1 86 j = τ.1 86 j) (k37 : τ'.1 86 37 = 0) (hU' : RU (σ'.1 32) (σ'.1 33) (σ'.1 34) (τ'.1 86 38) (τ'.1 116) (τ'.1 117) (τ'.1 119) (r16 (σ'.1 36) (σ'.1 37) (σ'.1 38) (σ'.1 39) (σ'.1 40) (σ'.1 41) (σ'.1 42) (σ'.1 43) (σ'.1 44) (σ'.1 45) (σ'.1 46) (σ'.1 47) (σ'.1 48) (σ'.1 49) (σ'.1 50) (σ'.1 51))) : RR n σ' τ' := by
  obtain ⟨hF, hP, hG, hA, hT, hU, hg, hcc, hs, hd, ho, hX⟩ := h
  refine ⟨?_, ?_, ?_, ?_, ?_, hU', ?_, ?_, ?_, ?_, ?_, ?_⟩
  · rw [kc 85 (by decide), km 87 (by decide)]; exact hF
  · rw [kc 1 (by decide), kc 2 (by decide), kc 3 (by decide), kc 4 (by decide), kc 5 (by decide), kc 6 (by decide), kc 7 (by decide), kc 8 (by decide), kc 9 (by decide), kc 10 (by decide), kc 11 (by decide), kc 12 (by decide), km 88 (by decide), km 89 (by decide), km 90 (by decide), km 91 (by decide), km 92 (by decide), km 93 (by decide), km 94 (by decide), km 95 (by decide), km 96 (by decide), km 97 (by decide), km 98 (by decide), kf 20 (by decide), kf 21 (by decide), kf 22 (by decide)]; exact hP
  · rw [kc 12 (by decide), kc 1 (by decide), kc 13 (by decide), kc 14 (by decide), kc 15 (by decide), kc 16 (by decide), kc 17 (by decide), km 99 (by decide), km 100 (by decide), km 101 (by decide), km 102 (by decide), km 103 (by decide), kf 23 (by decide)]; exact hG
  · rw [kc 25 (by decide), kc 26 (by decide), kc 27 (by decide), kc 28 (by decide), kc 1 (by decide), kc 12 (by decide), kc 13 (by decide), km 122 (by decide), km 123 (by decide), km 124 (by decide), km 125 (by decide), km 104 (by decide), km 105 (by decide), km 106 (by decide), kf 50 (by decide), kf 51 (by decide)]; exact hA
  · rw [k29, k37, kc 30 (by decide), km 115 (by decide)]; exact ⟨rfl, ⟨by decide, by decide⟩, hT.2.2.1, hT.2.2.2⟩
  · rw [kc 68 (by decide), kc 69 (by decide), km 137 (by decide), km 138 (by decide)]; exact hg
  · rw [kc 73 (by decide), kc 74 (by decide), kc 75 (by decide), kc 76 (by decide), km 139 (by decide), km 140 (by decide), km 141 (by decide), km 142 (by decide)]; exact hcc
  · rw [kc 77 (by decide), kc 78 (by decide), kc 79 (by decide), kc 80 (by decide), kc 81 (by decide), kc 82 (by decide), km 143 (by decide), km 144 (by decide), km 145 (by decide), km 146 (by decide), km 148 (by decide), kf 75 (by decide), kf 76 (by decide)]; exact hs
  · rw [kc 64 (by decide), km 132 (by decide), km 135 (by decide), km 136 (by decide)]; exact hd
  · unfold Ro at ho ⊢; rw [k54, kc 60 (by decide), kc 61 (by decide), kc 62 (by decide), kc 1 (by decide), km 149 (by decide), km 150 (by decide), km 151 (by decide), kf 80 (by decide)]; exact ho
  · rw [kc 14 (by decide), kc 15 (by decide), kc 16 (by decide), kc 17 (by decide), kc 20 (by decide), kc 21 (by decide), kc 22 (by decide), kc 23 (by decide)]; exact hX
theorem sAll_ok {t : Nat → Int32} {L q : Nat} {S : List Int32} (h : sAll t L = (q, some S)) : q = L ∧ 2 < L ∧ (t 0 = 80 ∨ t 0 = 86) ∧ (48 ≤ (t 1).toInt ∧ (t 1).toInt ≤ 57) ∧ sT t L 24 0 0 3 = (L, some S) := by
  unfold sAll at h
  by_cases h1 : tx t L 0 = 80 ∨ tx t L 0 = 86
  · rw [if_pos h1] at h
    by_cases h2 : 48 ≤ (tx t L 1).toInt ∧ (tx t L 1).toInt ≤ 57
    · rw [if_pos h2] at h
      by_cases h3 : tx t L 2 = 58
      · rw [if_pos h3] at h
        have hl : 2 < L := tx_lt (by rw [h3]; decide)
        obtain ⟨q1, s1, e1, e2⟩ := then_some h
        unfold tx at h1 h2
        rw [if_pos (by omega)] at h1 h2
        by_cases h4 : q1 = L
        · rw [if_pos h4] at e2
          obtain ⟨e3, e4⟩ := Prod.mk.inj e2
          rw [← e3]
          refine ⟨h4, hl, h1, h2, ?_⟩
          rw [← h4] at e1 ⊢
          rw [e1, Option.some.inj e4]
        · rw [if_neg h4] at e2; exact (no_pn e2).elim
      · rw [if_neg h3] at h; exact (no_pn h).elim
    · rw [if_neg h2] at h; exact (no_pn h).elim
  · rw [if_neg h1] at h; exact (no_pn h).elim
theorem or2_t {s M : Nat} (k : Nat) : (s ||| 2 ^ M).testBit k = (s.testBit k || decide (k = M)) := or_t k
theorem st_rule (n : Nat) {σ τ : Hp} (h : RR n σ τ) : Ok32 n (f_X11_rule σ) (f_X12_rule τ) := by
  obtain ⟨hF, hP, hG, hA, hT, hU, hR⟩ := id h
  obtain ⟨u1, u2, s, p, u3, u4, u5, u6, u7, u8⟩ := hU
  obtain ⟨t1, t2, t3, t4⟩ := hT
  have eM := n_of u2.1
  generalize hMM : (σ.1 32 2).toInt.toNat = M at eM
  have hM16 : M ≤ 16 := by have := u2.2; omega
  have eL := n_of t2.1
  generalize hLL : (σ.1 29 1).toInt.toNat = L at eL
  have hL40 : L ≤ 40 := by have := t2.2; omega
  have e38 : τ.1 86 38 = nI M := by rw [← u1, eM]
  have e37 : τ.1 86 37 = nI L := by rw [← t1, eL]
  unfold f_X11_rule f_X12_rule
  rw [eM, e38]
  by_cases hM : M < 16
  · rw [if_pos (show nI M < (16 : Int32) from (nI_ltI (b := 16) (by omega) (by omega)).2 hM), if_neg (show ¬ nI M = (16 : Int32) from fun g => absurd ((nI_eq (b := 16) (by omega) (by omega)).1 g) (by omega))]
    obtain ⟨σ2, c1, c2, c3, c4, c5⟩ := c_parses eL hL40
    obtain ⟨τ4, d1, d2, d3, d4⟩ := m_parses e37 hL40 (by rw [← t3]; exact t4)
    rw [← t3] at d1 d2
    rw [c1, d1, cl_s, cl_s, lt_e, lt_e, lt_e, lt_e, jn_e, d4 37 (by omega) (by omega), e37, show (sI τ4 86 37 0).1 86 39 = τ4.1 86 39 from rfl, c2, d2]
    match hx : sAll (σ.1 30) L with
    | (q, none) =>
      dsimp only
      rw [show rO (none : Option (List Int32)) = 0 from rfl, z0z, z0z]
      refine ⟨_, _, _, rfl, rfl, RR_same (RR_rule h (fun a ha => ?_) (by show σ2.1 54 6 = _; rw [c3 54 (by decide)]) rfl (fun a ha => ?_) (fun j hj => ?_) rfl ?_)⟩
      · rw [sI_1, if_neg (show ¬ a = 29 from fun e => by subst e; revert ha; decide)]
        exact c3 a (fun hb => by revert ha hb; revert a; decide)
      · rw [sI_1, if_neg (show ¬ a = 86 from fun e => by subst e; revert ha; decide)]
        exact d3 a (fun hb => by revert ha hb; revert a; decide)
      · show upd (τ4.1 86) 37 0 j = _
        rw [upd_at, if_neg (fun e => by subst e; revert hj; decide)]
        exact d4 j (fun e => by subst e; revert hj; decide) (fun e => by subst e; revert hj; decide)
      · have ec : ∀ a, a ≠ 29 → a ≠ 31 → (sI σ2 29 1 0).1 a = σ.1 a := fun a h1 h2 => by
          rw [sI_1, if_neg h1]
          exact c3 a (by rw [List.mem_cons, List.mem_singleton]; omega)
        have em : ∀ a, a ≠ 86 → a ≠ 118 → (sI τ4 86 37 0).1 a = τ.1 a := fun a h1 h2 => by
          rw [sI_1, if_neg h1]
          exact d3 a (by rw [List.mem_cons, List.mem_singleton]; omega)
        have e38' : (sI τ4 86 37 0).1 86 38 = τ.1 86 38 := by
          show upd (τ4.1 86) 37 0 38 = _
          rw [upd_at, if_neg (by omega)]
          exact d4 38 (by omega) (by omega)
        rw [ec 32 (by omega) (by omega), ec 33 (by omega) (by omega), ec 34 (by omega) (by omega), ec 36 (by omega) (by omega), ec 37 (by omega) (by omega), ec 38 (by omega) (by omega), ec 39 (by omega) (by omega), ec 40 (by omega) (by omega), ec 41 (by omega) (by omega), ec 42 (by omega) (by omega), ec 43 (by omega) (by omega), ec 44 (by omega) (by omega), ec 45 (by omega) (by omega), ec 46 (by omega) (by omega), ec 47 (by omega) (by omega), ec 48 (by omega) (by omega), ec 49 (by omega) (by omega), ec 50 (by omega) (by omega), ec 51 (by omega) (by omega), em 116 (by omega) (by omega), em 117 (by omega) (by omega), em 119 (by omega) (by omega), e38']
        exact h.2.2.2.2.2.1
    | (q, some S) =>
      rw [hx] at c5
      obtain ⟨k4, k5, k7, kS, kst⟩ := c5 S rfl
      obtain ⟨-, hl2, ht0, ht1, hsT⟩ := sAll_ok hx
      have etx : ∀ i, i < L → tx (σ.1 30) L i = σ.1 30 i := fun i hi => by unfold tx; rw [if_pos hi]
      rw [etx 0 (by omega)] at k4
      rw [etx 1 (by omega)] at k5
      dsimp only
      rw [show rO (some S) = 1 from rfl, z1z, z1z]
      have q32 : σ2.1 32 = σ.1 32 := c3 32 (by decide)
      obtain ⟨σ7, a1, a2, a3, a4, a5, a6, a7, a8⟩ := c_ruleadd (σ := sI σ2 29 1 0) (M := M) (s := s) (p := p) (P := σ.1 30 0 = 80) (by show σ2.1 32 2 = _; rw [q32, eM]) hM (by show σ2.1 32 3 = _; rw [q32, u3]) (by show σ2.1 32 4 = _; rw [q32, u4]) u5 u6 (by show σ2.1 29 4 = _; exact k4)
      have q38 : (sI τ4 86 37 0).1 86 38 = nI M := by
        show upd (τ4.1 86) 37 0 38 = _
        rw [upd_at, if_neg (by omega), d4 38 (by omega) (by omega), e38]
      obtain ⟨τ7, b1, b2, b3, b4, b5, b6, b7⟩ := m_ruleadd q38 hM hL40
      rw [a1, cl_s, jn_e, b1]
      have ec : ∀ a, a ≠ 29 → a ≠ 31 → a ≠ 32 → a ≠ 33 → a ≠ 34 → a ≠ 36 + M → σ7.1 a = σ.1 a := fun a h1 h2 h3 h4 h5 h6 => by
        rw [a2 a h3 h4 h5 h6, sI_1, if_neg h1]
        exact c3 a (by rw [List.mem_cons, List.mem_singleton]; omega)
      have em : ∀ a, a ≠ 86 → a ≠ 118 → a ≠ 116 → a ≠ 117 → a ≠ 119 → τ7.1 a = τ.1 a := fun a h1 h2 h3 h4 h5 => by
        rw [b2 a h1 h3 h4 h5, sI_1, if_neg h1]
        exact d3 a (by rw [List.mem_cons, List.mem_singleton]; omega)
      have ebase : ∀ j, (sI τ4 86 37 0).1 116 j = τ.1 116 j := fun j => by
        show τ4.1 116 j = _
        rw [d3 116 (by decide)]
      have e115 : (sI τ4 86 37 0).1 115 = σ.1 30 := by
        show τ4.1 115 = _
        rw [d3 115 (by decide), t3]
      rw [e115] at b7
      refine ⟨nI M, σ7, τ7, rfl, rfl, RR_same (RR_rule h (fun a ha => ?_) ?_ ?_ (fun a ha => ?_) (fun j hj => ?_) ?_ ?_)⟩
      · refine ec a ?_ ?_ ?_ ?_ ?_ ?_
        · intro e; subst e; revert ha; decide
        · intro e; subst e; revert ha; decide
        · intro e; subst e; revert ha; decide
        · intro e; subst e; revert ha; decide
        · intro e; subst e; revert ha; decide
        · have : ∀ a, a ∈ cR → a < 36 ∨ 52 ≤ a := by decide
          have := this a ha
          omega
      · rw [ec 54 (by omega) (by omega) (by omega) (by omega) (by omega) (by omega)]
      · rw [a2 29 (by omega) (by omega) (by omega) (by omega)]; rfl
      · refine em a ?_ ?_ ?_ ?_ ?_ <;> (intro e; subst e; revert ha; decide)
      · rw [b3 j (fun e => by subst e; revert hj; decide)]
        show upd (τ4.1 86) 37 0 j = _
        rw [upd_at, if_neg (fun e => by subst e; revert hj; decide)]
        exact d4 j (fun e => by subst e; revert hj; decide) (fun e => by subst e; revert hj; decide)
      · rw [b3 37 (by omega)]; rfl
      · have h2M := two16 hM
        refine ⟨by rw [a3, b4], ⟨by rw [a3, nI_toInt (by omega)]; omega, by rw [a3, nI_toInt (by omega)]; omega⟩, s ||| 2 ^ M, p ||| (if σ.1 30 0 = 80 then 2 ^ M else 0), a4, a5, Nat.or_lt_two_pow u5 (by omega), Nat.or_lt_two_pow u6 (by split <;> omega), fun k hk => ?_, fun r hr => ?_⟩
        · rw [a3, nI_toInt (by omega)] at hk
          obtain ⟨v1, v2⟩ := u7 k (by rw [eM, nI_toInt (by omega)]; omega)
          refine ⟨by rw [or2_t, v1, decide_eq_false (by omega)]; rfl, ?_⟩
          split
          · rw [or2_t, v2, decide_eq_false (by omega)]; rfl
          · rw [Nat.or_zero]; exact v2
        · rw [a3, nI_toInt (by omega)] at hr
          have hst : ∀ r, r < 16 → r16 (σ7.1 36) (σ7.1 37) (σ7.1 38) (σ7.1 39) (σ7.1 40) (σ7.1 41) (σ7.1 42) (σ7.1 43) (σ7.1 44) (σ7.1 45) (σ7.1 46) (σ7.1 47) (σ7.1 48) (σ7.1 49) (σ7.1 50) (σ7.1 51) r = σ7.1 (36 + r) := r16_at σ7
          rw [hst r (by omega)]
          by_cases er : r = M
          · subst er
            have p1 : p.testBit r = false := (u7 r (by rw [eM, nI_toInt (by omega)]; omega)).2
            have ht116 : ∀ k, k < L → τ7.1 116 (40 * r + k) = σ.1 30 k := fun k hk => by
              rw [b7, if_pos (by omega), show 40 * r + k - 40 * r = k by omega]
            have h33 : σ7.1 33 r = σ.1 30 1 - 48 := by
              rw [a6, pk_us]; exact k5
            obtain ⟨d, dd1, dd2⟩ := dig_n ht1
            refine ⟨by rw [b6, pk_us, or2_t, decide_eq_true rfl, Bool.or_true]; rfl, by rw [h33, dd2]; exact ⟨by rw [nI_toInt (by omega)]; omega, by rw [nI_toInt (by omega)]; omega⟩, ?_, ?_, L, by rw [b5, pk_us], hL40, fun k hk => (by dsimp only; rw [ht116 k hk]; exact t4 k), S, ?_, ?_, kS, fun k hk => ?_⟩
            · rw [show 40 * r = 40 * r + 0 by omega, ht116 0 (by omega)]
              by_cases e80 : σ.1 30 0 = 80
              · rw [if_pos e80, or2_t, decide_eq_true rfl, Bool.or_true, if_pos rfl, e80]
              · rw [if_neg e80, Nat.or_zero, p1, if_neg (by decide)]
                exact ht0.resolve_left e80
            · rw [ht116 1 (by omega), h33]
              rw [Int32.add_comm, Int32.sub_add_cancel]
            · rw [sT_c (t' := σ.1 30) (fun i => ?_)]
              · exact hsT
              · unfold tx
                by_cases hi : i < L
                · rw [if_pos hi, if_pos hi]; exact ht116 i hi
                · rw [if_neg hi, if_neg hi]
            · rw [a7, pk_us]; exact k7
            · rw [a8 k (by omega)]; exact kst k hk
          · have hrM : r < M := by omega
            obtain ⟨v1, v2, v3, v4, v5⟩ := u8 r (by rw [eM, nI_toInt (by omega)]; omega)
            rw [r16_at σ r (by omega)] at v5
            have f116 : ∀ k, k < 40 → τ7.1 116 (40 * r + k) = τ.1 116 (40 * r + k) := fun k hk => by
              rw [b7, if_neg (by omega)]; exact ebase _
            have f33 : σ7.1 33 r = σ.1 33 r := by rw [a6, pk_un er]; show σ2.1 33 r = _; rw [c3 33 (by decide)]
            have f34 : σ7.1 34 r = σ.1 34 r := by rw [a7, pk_un er]; show σ2.1 34 r = _; rw [c3 34 (by decide)]
            have f117 : τ7.1 117 r = τ.1 117 r := by rw [b5, pk_un er]; show τ4.1 117 r = _; rw [d3 117 (by decide)]
            have f119 : τ7.1 119 r = τ.1 119 r := by rw [b6, pk_un er]; show τ4.1 119 r = _; rw [d3 119 (by decide)]
            refine ⟨?_, by rw [f33]; exact v2, ?_, ?_, ?_⟩
            · rw [f119, or2_t, decide_eq_false er, Bool.or_false]; exact v1
            · rw [show 40 * r = 40 * r + 0 by omega, f116 0 (by omega)]
              split
              · rw [or2_t, decide_eq_false er, Bool.or_false]; exact v3
              · rw [Nat.or_zero]; exact v3
            · rw [f116 1 (by omega), f33]; exact v4
            · rw [f117, f34, ec (36 + r) (by omega) (by omega) (by omega) (by omega) (by omega) (by omega)]
              obtain ⟨L', w1, w2, w3, S', w4, w5, w6, w7⟩ := v5
              refine ⟨L', w1, w2, fun k hk => (by dsimp only; rw [f116 k (by omega)]; exact w3 k hk), S', ?_, w5, w6, w7⟩
              rw [sT_c (t' := fun k => τ.1 116 (40 * r + k)) (fun i => ?_)]
              · exact w4
              · unfold tx
                by_cases hi : i < L'
                · rw [if_pos hi, if_pos hi]; exact f116 i (by omega)
                · rw [if_neg hi, if_neg hi]
  · obtain rfl : M = 16 := by omega
    rw [if_neg (show ¬ nI 16 < (16 : Int32) by decide), if_pos (show nI 16 = (16 : Int32) from rfl), e_refuse6, e_no6, cl_s, cl_s]
    exact ok_ref h
