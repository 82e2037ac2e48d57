theorem bN_nar (m k : Nat) : vp_nar .boolean (bN m k) = bN m k := by
  unfold bN
  cases m.testBit k <;> rfl
theorem m_keep {τ : Hp} {x : GS} (hG : GM τ x) : ∃ τ', f_X12_copies (1 : Int32) τ = some τ' ∧ ((∀ k, k < 15 → τ'.1 109 k = τ.1 99 k ∧ τ'.1 110 k = τ.1 100 k) ∧ (∀ k, k < 24 → τ'.1 111 k = τ.1 101 k) ∧ (∀ k, k < 3 → τ'.1 112 k = τ.1 102 k ∧ τ'.1 113 k = τ.1 103 k) ∧ (∀ k, k < 8 → τ'.1 114 k = τ.1 106 k)) ∧ fr [109, 110, 111, 112, 113, 114] τ τ' := by
  obtain ⟨τ1, a1, a2, -, a3⟩ := cpk1 τ (f_X12_copies_j76 1)
  obtain ⟨τ2, b1, b2, -, b3⟩ := cpk2 τ1 (f_X12_copies_j121 1)
  obtain ⟨τ3, c1, c2, -, c3⟩ := cpk3 τ2 (f_X12_copies_j196 1)
  obtain ⟨τ4, d1, d2, -, d3⟩ := cpk4 τ3
  refine ⟨τ4, ?_, ⟨fun k hk => ?_, fun k hk => ?_, fun k hk => ?_, fun k hk => ?_⟩, fr_t (fr_t (fr_t (fr_m (by decide) a3) (fr_m (by decide) b3)) (fr_m (by decide) c3)) (fr_m (by decide) d3)⟩
  · unfold f_X12_copies
    rw [jn_e, a1]
    unfold f_X12_copies_j76
    rw [jn_e, b1]
    unfold f_X12_copies_j121
    rw [jn_e, c1]
    unfold f_X12_copies_j196
    exact d1
  · rw [d3 109 (by decide), c3 109 (by decide), b3 109 (by decide), d3 110 (by decide), c3 110 (by decide), b3 110 (by decide)]
    exact a2 k hk
  · rw [d3 111 (by decide), c3 111 (by decide), b2 k hk, a3 101 (by decide)]
  · rw [d3 112 (by decide), d3 113 (by decide), (c2 k hk).1, (c2 k hk).2, b3 102 (by decide), a3 102 (by decide), b3 103 (by decide), a3 103 (by decide)]
    exact ⟨rfl, rfl⟩
  · rw [d2 k hk, c3 106 (by decide), b3 106 (by decide), a3 106 (by decide), hG.2.2.2.2 k, bN_nar]
theorem m_bring {τ : Hp} {m : Nat} (hm : ∀ k, k < 8 → τ.1 114 k = bN m k) : ∃ τ', f_X12_copies (0 : Int32) τ = some τ' ∧ ((∀ k, k < 15 → τ'.1 99 k = τ.1 109 k ∧ τ'.1 100 k = τ.1 110 k) ∧ (∀ k, k < 24 → τ'.1 101 k = τ.1 111 k) ∧ (∀ k, k < 3 → τ'.1 102 k = τ.1 112 k ∧ τ'.1 103 k = τ.1 113 k) ∧ (∀ k, k < 8 → τ'.1 106 k = τ.1 114 k)) ∧ ((∀ k, 15 ≤ k → τ'.1 99 k = τ.1 99 k ∧ τ'.1 100 k = τ.1 100 k) ∧ (∀ k, 24 ≤ k → τ'.1 101 k = τ.1 101 k) ∧ (∀ k, 3 ≤ k → τ'.1 102 k = τ.1 102 k ∧ τ'.1 103 k = τ.1 103 k) ∧ (∀ k, 8 ≤ k → τ'.1 106 k = τ.1 106 k)) ∧ fr [99, 100, 101, 102, 103, 106] τ τ' := by
  obtain ⟨τ1, a1, a2, a4, a3⟩ := cpb1 τ (f_X12_copies_j76 0)
  obtain ⟨τ2, b1, b2, b4, b3⟩ := cpb2 τ1 (f_X12_copies_j121 0)
  obtain ⟨τ3, c1, c2, c4, c3⟩ := cpb3 τ2 (f_X12_copies_j196 0)
  obtain ⟨τ4, d1, d2, d4, d3⟩ := cpb4 τ3
  refine ⟨τ4, ?_, ⟨fun k hk => ?_, fun k hk => ?_, fun k hk => ?_, fun k hk => ?_⟩, ⟨fun k hk => ?_, fun k hk => ?_, fun k hk => ?_, fun k hk => ?_⟩, fr_t (fr_t (fr_t (fr_m (by decide) a3) (fr_m (by decide) b3)) (fr_m (by decide) c3)) (fr_m (by decide) d3)⟩
  · unfold f_X12_copies
    rw [jn_e, a1]
    unfold f_X12_copies_j76
    rw [jn_e, b1]
    unfold f_X12_copies_j121
    rw [jn_e, c1]
    unfold f_X12_copies_j196
    exact d1
  · rw [d3 99 (by decide), c3 99 (by decide), b3 99 (by decide), d3 100 (by decide), c3 100 (by decide), b3 100 (by decide)]
    exact a2 k hk
  · rw [d3 101 (by decide), c3 101 (by decide), b2 k hk, a3 111 (by decide)]
  · rw [d3 102 (by decide), d3 103 (by decide), (c2 k hk).1, (c2 k hk).2, b3 112 (by decide), a3 112 (by decide), b3 113 (by decide), a3 113 (by decide)]
    exact ⟨rfl, rfl⟩
  · rw [d2 k hk, c3 114 (by decide), b3 114 (by decide), a3 114 (by decide), hm k hk, bN_nar]
  · rw [d3 99 (by decide), c3 99 (by decide), b3 99 (by decide), d3 100 (by decide), c3 100 (by decide), b3 100 (by decide)]
    exact a4 k hk
  · rw [d3 101 (by decide), c3 101 (by decide), b4 k hk, a3 101 (by decide)]
  · rw [d3 102 (by decide), d3 103 (by decide), (c4 k hk).1, (c4 k hk).2, b3 102 (by decide), a3 102 (by decide), b3 103 (by decide), a3 103 (by decide)]
    exact ⟨rfl, rfl⟩
  · rw [d4 k hk, c3 106 (by decide), b3 106 (by decide), a3 106 (by decide)]
/-- the grains ahead become the grains -/
theorem c_become {σ : Hp} {x : GS} (hG : GC 13 σ x) (hX : RX (σ.1 14) (σ.1 15) (σ.1 16) (σ.1 17) (σ.1 20) (σ.1 21) (σ.1 22) (σ.1 23)) : ∃ σ', f_X4_become 19 σ = some σ' ∧ GC 19 σ' x ∧ σ'.1 19 0 = σ.1 13 0 ∧ fr [19, 20, 21, 22, 23] σ σ' := by
  obtain ⟨G1, G2, G3, G4, G5⟩ := hG
  obtain ⟨x1, x2, x3, x4⟩ := hX
  have cp : ∀ {f g : Nat → Int32} {r : Nat → Nat} {n : Nat}, f = nrow r → (∀ k, n ≤ k → g k = f k) → va_cpy f g 0 0 n = nrow r := fun {f g r n} hf hg => by
    funext k
    rcases Nat.lt_or_ge k n with h | h
    · rw [cpy_at h, hf]
    · unfold va_cpy
      rw [if_neg (by omega), hg k h, hf]
  generalize hs1 : sI (sI σ 19 0 (σ.1 13 0)) 19 1 (σ.1 13 1) = s1
  have f1 : fr [19] σ s1 := by rw [← hs1]; exact fr_s (by decide) (fr_s (by decide) (fr_0 _ _))
  generalize hs2 : sR s1 20 (va_cpy (s1.1 14) (s1.1 20) 0 0 15) = s2
  have f2 : fr [19, 20] σ s2 := by rw [← hs2]; exact fr_r (by decide) (fr_m (by decide) f1)
  generalize hs3 : sR s2 21 (va_cpy (s2.1 15) (s2.1 21) 0 0 15) = s3
  have f3 : fr [19, 20, 21] σ s3 := by rw [← hs3]; exact fr_r (by decide) (fr_m (by decide) f2)
  generalize hs4 : sR s3 22 (va_cpy (s3.1 16) (s3.1 22) 0 0 24) = s4
  have f4 : fr [19, 20, 21, 22] σ s4 := by rw [← hs4]; exact fr_r (by decide) (fr_m (by decide) f3)
  refine ⟨sR s4 23 (va_cpy (s4.1 17) (s4.1 23) 0 0 3), ?_, ⟨?_, ?_, ?_, ?_, ?_⟩, ?_, fr_r (by decide) (fr_m (by decide) f4)⟩
  · unfold f_X4_become
    simp only [lt_e, sI_1, reduceIte, Nat.reduceEqDiff, Nat.reduceAdd]
    rw [hs1, show (15 : Int32) = nI 15 from rfl, cpI_n (by omega), hs2, cpI_n (by omega), hs3, show (24 : Int32) = nI 24 from rfl, cpI_n (by omega), hs4, show (3 : Int32) = nI 3 from rfl, cpI_n (by omega)]
  · show s4.1 20 = _
    rw [← hs4, ← hs3, ← hs2]
    show va_cpy (s1.1 14) (s1.1 20) 0 0 15 = _
    rw [f1 14 (by decide), f1 20 (by decide)]
    exact cp G1 x1
  · show s4.1 21 = _
    rw [← hs4, ← hs3]
    show va_cpy (s2.1 15) (s2.1 21) 0 0 15 = _
    rw [f2 15 (by decide), f2 21 (by decide)]
    exact cp G2 x2
  · show s4.1 22 = _
    rw [← hs4]
    show va_cpy (s3.1 16) (s3.1 22) 0 0 24 = _
    rw [f3 16 (by decide), f3 22 (by decide)]
    exact cp G3 x3
  · show va_cpy (s4.1 17) (s4.1 23) 0 0 3 = _
    rw [f4 17 (by decide), f4 23 (by decide)]
    exact cp G4 x4
  · show s4.1 19 1 = _
    rw [← hs4, ← hs3, ← hs2, ← hs1]
    exact G5
  · show s4.1 19 0 = _
    rw [← hs4, ← hs3, ← hs2, ← hs1]
    rfl
theorem st_when (n : Nat) (hn : n < 512) (a b c : Int32) {σ τ : Hp} (h : RR n σ τ) : Ok32 n (f_X11_when a b c σ) (f_X12_when a b c τ) := by
  obtain ⟨hr, hr0, hr5⟩ := rr_rooms h
  simp only [f_X11_when_j126, f_X11_when_j53, f_X11_when_j48, f_X11_when_j35, f_X11_when_j30, f_X11_when_j20, f_X11_when, f_X12_when_j125, f_X12_when_j119, f_X12_when_j47, f_X12_when_j23, f_X12_when_j41, f_X12_when, jn_e, lt_e, k_within, k_isIn, k_isGas, k_isRoom, k_isPipe, k_isPump, k_out, cl_s, cr_s, rf_1, rf_2, rf_4, rf_6, rf_0, e_no1, e_no2, e_no3, e_no4, e_no6, e_no7, e_refuse1, e_refuse2, e_refuse3, e_refuse4, e_refuse6, e_refuse7, n1z, n2z, n3z, n4z, n6z, z0z, z1z, i32_lt, i32_le, Int.reduceAdd, Int.reduceSub, if_true, if_false, hr, l_0, l_1, l_300, l_999999, ile]
  by_cases h1 : 0 ≤ a.toInt ∧ a.toInt < (σ.1 1 0).toInt
  · simp only [if_pos h1]
    by_cases h2 : b.toInt < 0
    · simp only [if_pos h2, ite_self]; exact ok_ref h
    by_cases h3 : c.toInt < 1
    · simp only [if_neg h2, if_pos h3, ite_self]; exact ok_ref h
    by_cases h4 : 999999 < b.toInt
    · simp only [if_neg h2, if_neg h3, if_pos h4]; exact ok_ref h
    by_cases h5 : 300 < c.toInt
    · simp only [if_neg h2, if_neg h3, if_neg h4, if_pos h5]; exact ok_ref h
    simp only [if_neg h2, if_neg h3, if_neg h4, if_neg h5]
    obtain ⟨hB, hC, hM⟩ := RR_pl h
    obtain ⟨x, k, u0, u1, u2, gc, gm, ni, ou, wn, hz⟩ := RR_gs h
    have hX := h.2.2.2.2.2.2.2.2.2.2.2
    have ea := n_of (a := a) (by omega)
    have eb := n_of (a := b) (by omega)
    have ec := n_of (a := c) (by omega)
    generalize hra : a.toInt.toNat = r at ea
    generalize hrb : b.toInt.toNat = mk at eb
    generalize hrc : c.toInt.toNat = mm at ec
    have q1 : r < plN σ 1 0 := by show r < (σ.1 1 0).toInt.toNat; omega
    have q2 : mk ≤ 999999 := by omega
    have q3 : mm ≤ 300 := by omega
    subst ea eb ec
    obtain ⟨σ1, a1, a2, a3, a4⟩ := c_become gc hX
    have hC1 : PC σ1 (plN σ) := PC_fr (by decide) a4 hC
    obtain ⟨σ2, b1, b2, b3⟩ := c_when hB (B := 99999 * n + 4995 * k) (mm := mm) (by omega) (by omega) u1 (show mk < 2147483648 by omega) q1 ni wn mm 0 FU σ1 (by omega) (by rw [FU_e]; omega) hC1 a2 (by rw [a3]; exact u0)
    obtain ⟨τ1, c1, ⟨c2, c3, c4, c5⟩, c6⟩ := m_keep gm
    have hM1 : PM τ1 (plN σ) := PM_fr (by decide) c6 hM
    have gm1 : GM τ1 x := by
      obtain ⟨g1, g2, g3, g4, g5⟩ := gm
      exact ⟨by rw [c6 99 (by decide)]; exact g1, by rw [c6 100 (by decide)]; exact g2, by rw [c6 101 (by decide)]; exact g3, by rw [c6 102 (by decide)]; exact g4, by rw [c6 106 (by decide)]; exact g5⟩
    have t1 : τ1.1 86 23 = nI k := by rw [c6 86 (by decide)]; exact u2
    obtain ⟨τ2, d1, d2, d3⟩ := m_when hB (B := 99999 * n + 4995 * k) (mm := mm) (by omega) (by omega) u1 (show mk < 2147483648 by omega) q1 ni wn (f_X12_when_j125 (nI k)) mm 0 FU τ1 (by omega) (by rw [FU_e]; omega) hM1 gm1 (fun g hg => by rw [c6 103 (by decide)]; exact ou g hg) t1
    generalize hj : whN (plN σ) x r mk k mm 0 = wj at b1 b2 d1 d2
    have hhi := nit_hi hB x wj.2
    have hok := nit_ok hB ni wn wj.2
    obtain ⟨e1, e2, e3, e4⟩ := hhi
    obtain ⟨τ3, v1, ⟨v2, v3, v4, v5⟩, ⟨w2, w3, w4, w5⟩, v6⟩ := m_bring (τ := sI τ2 86 23 (nI k)) (m := x.2.2.2) (fun j hj8 => by
      show τ2.1 114 j = _
      rw [d3.1 114 (by decide), c5 j hj8]
      exact gm.2.2.2.2 j)
    refine ⟨wj.1, σ2, τ3, ?_, ?_, ?_⟩
    · simp only [a1, cr_s]
      exact b1
    · simp only [c1, cr_s, t1]
      refine d1.trans ?_
      unfold f_X12_when_j125
      rw [lt_e, v1, cr_s]
    · -- the model's rows are as they were
      have old : ∀ {f g : Nat → Int32} {r : Nat → Nat} {n : Nat}, f = nrow r → (∀ k, k < n → g k = f k) → (∀ k, n ≤ k → g k = f k) → g = f := fun {f g r n} _ hl hh => by
        funext k
        rcases Nat.lt_or_ge k n with h | h
        · exact hl k h
        · exact hh k h
      obtain ⟨m1, m2, m3, m4, m5⟩ := gm
      obtain ⟨p1, p2, p3, p4, p5⟩ := d2
      have r99 : τ3.1 99 = τ.1 99 := old (n := 15) m1 (fun j hj => by rw [(v2 j hj).1]; show τ2.1 109 j = _; rw [d3.1 109 (by decide), (c2 j hj).1]) (fun j hj => by rw [(w2 j hj).1]; show τ2.1 99 j = _; rw [p1, m1, nrow_at, nrow_at, e1 j hj])
      have r100 : τ3.1 100 = τ.1 100 := old (n := 15) m2 (fun j hj => by rw [(v2 j hj).2]; show τ2.1 110 j = _; rw [d3.1 110 (by decide), (c2 j hj).2]) (fun j hj => by rw [(w2 j hj).2]; show τ2.1 100 j = _; rw [p2, m2, nrow_at, nrow_at, e3 j hj])
      have r101 : τ3.1 101 = τ.1 101 := old (n := 24) m3 (fun j hj => by rw [v3 j hj]; show τ2.1 111 j = _; rw [d3.1 111 (by decide), c3 j hj]) (fun j hj => by rw [w3 j hj]; show τ2.1 101 j = _; rw [p3, m3, nrow_at, nrow_at, e2 j hj])
      have r102 : τ3.1 102 = τ.1 102 := old (n := 3) m4 (fun j hj => by rw [(v4 j hj).1]; show τ2.1 112 j = _; rw [d3.1 112 (by decide), (c4 j hj).1]) (fun j hj => by rw [(w4 j hj).1]; show τ2.1 102 j = _; rw [p4, m4, nrow_at, nrow_at, e4 j hj])
      have r103 : ∀ g, g < 3 → τ3.1 103 g = τ.1 103 g := fun j hj => by rw [(v4 j hj).2]; show τ2.1 113 j = _; rw [d3.1 113 (by decide), (c4 j hj).2]
      have r106 : τ3.1 106 = τ.1 106 := by
        funext j
        rcases Nat.lt_or_ge j 8 with hj | hj
        · rw [v5 j hj]; show τ2.1 114 j = _; rw [d3.1 114 (by decide), c5 j hj]
        · rw [w5 j hj]; show τ2.1 106 j = _; rw [p5 j, m5 j]; unfold bN; rw [tb_big (b := 8) hok.1.2 hj, tb_big (b := 8) ni.2 hj]
      have r86 : ∀ j, j ≠ 23 → τ3.1 86 j = τ.1 86 j := fun j hj => by
        rw [v6 86 (by decide)]
        show upd (τ2.1 86) 23 _ j = _
        rw [pk_un hj, d3.2 j hj, c6 86 (by decide)]
      have r23 : τ3.1 86 23 = τ.1 86 23 := by
        rw [v6 86 (by decide), u2]
        rfl
      have hKM : KM τ τ3 := by
        refine ⟨fun q hq => ?_, fun j hj => r86 j (fun e => by subst e; revert hj; decide)⟩
        rw [v6 q (by revert hq; revert q; decide)]
        show (if q = 86 then _ else τ2.1 q) = _
        rw [if_neg (by revert hq; revert q; decide), d3.1 q (by revert hq; revert q; decide), c6 q (by revert hq; revert q; decide)]
      have hfr : fr [19, 20, 21, 22, 23, 24] σ σ2 := fr_t (fr_m (by decide) a4) b3
      refine RR_parts (RR_same h) (KC_fr (by decide) hfr) hKM ?_ ?_ ?_
      · have hG := (RR_same h).2.2.1
        obtain ⟨j1, j2, j3, j4, j5, j6, j7, j8, j9⟩ := hG
        rw [hfr 13 (by decide), hfr 14 (by decide), hfr 15 (by decide), hfr 16 (by decide), hfr 17 (by decide), r23, r99, r100, r101, r102]
        exact ⟨j1, j2, j3, j4, j5, j6, j7, j8, fun g hg => by rw [r103 g hg]; exact j9 g hg⟩
      · rw [hfr 13 (by decide), r106]
        exact h.2.2.2.1
      · obtain ⟨z1, z2, z3, z4, z5⟩ := b2
        obtain ⟨y1, y2, y3, y4, y5⟩ := gc
        rw [hfr 14 (by decide), hfr 15 (by decide), hfr 16 (by decide), hfr 17 (by decide)]
        refine ⟨fun j hj => ?_, fun j hj => ?_, fun j hj => ?_, fun j hj => ?_⟩
        · rw [show σ2.1 20 = _ from z1, show σ.1 14 = _ from y1, nrow_at, nrow_at, e1 j hj]
        · rw [show σ2.1 21 = _ from z2, show σ.1 15 = _ from y2, nrow_at, nrow_at, e3 j hj]
        · rw [show σ2.1 22 = _ from z3, show σ.1 16 = _ from y3, nrow_at, nrow_at, e2 j hj]
        · rw [show σ2.1 23 = _ from z4, show σ.1 17 = _ from y4, nrow_at, nrow_at, e4 j hj]
  · simp only [if_neg h1, ite_self]; exact ok_ref h
