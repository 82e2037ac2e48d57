/-- the answer of 'when', and how many ticks ahead were looked at -/
def whN (pl : Nat → Nat → Nat) (x : GS) (r mark k : Nat) : Nat → Nat → Int32 × Nat
  | 0, i => (-9, i)
  | d + 1, i => if 5000 ≤ k + i then (-9, i) else if mark ≤ psN pl (nit pl x (i + 1)).1.1 r then whN pl x r mark k d (i + 1) else (nI (k + (i + 1)), i + 1)
theorem nit_lt {pl : Nat → Nat → Nat} (hB : PB pl) {B : Nat} {x : GS} (h : NI pl B x) (hW : WN pl x.2.2.2) {i m : Nat} (hi : i ≤ m) (hBB : B + 4995 * m < 700000000) : ∀ k, k < 15 → (nit pl x i).1.1 k < 700000000 := fun k hk => by
  have h1 := KN_a (nit_ok hB h hW i).1.1.1 hk
  have h2 := Nat.mul_le_mul_left 4995 hi
  omega
theorem c_when {pl : Nat → Nat → Nat} (hB : PB pl) {x : GS} {B k mm r mark : Nat} (hBB : B + 4995 * mm < 700000000) (hmm : mm < 2147483648) (hk : k ≤ 5000) (hmk : mark < 2147483648) (hr : r < pl 1 0) (hN : NI pl B x) (hW : WN pl x.2.2.2) : ∀ (d i m : Nat) (σ : Hp), i + d = mm → d < m → PC σ pl → GC 19 σ (nit pl x i) → σ.1 19 0 = nI (k + i) → ∃ σ', lp (f_X11_when_l80 (nI r) (nI mark) (nI mm) f_X11_when_j126) m (nI i, σ) = some ((whN pl x r mark k d i).1, σ') ∧ GC 19 σ' (nit pl x (whN pl x r mark k d i).2) ∧ fr [19, 20, 21, 22, 23, 24] σ σ'
  | d, i, 0, σ, _, h, _, _, _ => absurd h (by omega)
  | 0, i, m + 1, σ, h1, h2, hP, hG, hkk => by
    refine ⟨σ, ?_, hG, fr_0 _ _⟩
    rw [lp_succ]
    simp (disch := omega) only [f_X11_when_l80, le_t]
    rfl
  | d + 1, i, m + 1, σ, h1, h2, hP, hG, hkk => by
    rw [lp_succ]
    by_cases h5 : 5000 ≤ k + i
    · refine ⟨σ, ?_, ?_, fr_0 _ _⟩
      · simp (disch := omega) only [f_X11_when_l80, le_f, hkk, show (5000 : Int32) = nI 5000 from rfl, le_t, whN, if_pos h5]
      · unfold whN; rw [if_pos h5]; exact hG
    · obtain ⟨σ1, g1, g2, g3, g4⟩ := c_pass119 hB hP hBB (show i < mm by omega) hN hW hG hkk
      have hP1 : PC σ1 pl := PC_fr (by decide) g4 hP
      have g5 := c_push19 hB hP1 g2.1 (nit_lt hB hN hW (show i + 1 ≤ mm by omega) hBB) hr
      have h6 := psN_lt pl (nit pl x (i + 1)).1.1 r
      by_cases h7 : mark ≤ psN pl (nit pl x (i + 1)).1.1 r
      · obtain ⟨σ2, u1, u2, u3⟩ := c_when hB hBB hmm hk hmk hr hN hW d (i + 1) m σ1 (by omega) (by omega) hP1 g2 g3
        refine ⟨σ2, ?_, ?_, fr_t g4 u3⟩
        · rw [whN, if_neg h5, if_pos h7, ← u1]
          generalize lp (f_X11_when_l80 (nI r) (nI mark) (nI mm) f_X11_when_j126) m = K
          simp (disch := omega) only [f_X11_when_l80, le_f, hkk, show (5000 : Int32) = nI 5000 from rfl, g1, cr_s, g5, le_t, lt_e, nI_1]
        · rw [whN, if_neg h5, if_pos h7]; exact u2
      · refine ⟨σ1, ?_, ?_, g4⟩
        · rw [whN, if_neg h5, if_neg h7]
          generalize lp (f_X11_when_l80 (nI r) (nI mark) (nI mm) f_X11_when_j126) m = K
          simp (disch := omega) only [f_X11_when_l80, f_X11_when_j126, le_f, hkk, show (5000 : Int32) = nI 5000 from rfl, g1, cr_s, g5, g3]
        · rw [whN, if_neg h5, if_neg h7]; exact g2
theorem m_when {pl : Nat → Nat → Nat} (hB : PB pl) {x : GS} {B k mm r mark : Nat} (hBB : B + 4995 * mm < 700000000) (hmm : mm < 2147483648) (hk : k ≤ 5000) (hmk : mark < 2147483648) (hr : r < pl 1 0) (hN : NI pl B x) (hW : WN pl x.2.2.2) (k125 : (Int32 × Hp) → Option (Int32 × Hp)) : ∀ (d i m : Nat) (τ : Hp), i + d = mm → d + 1 < m → PM τ pl → GM τ (nit pl x i) → OU pl τ (nit pl x i).1.2 → τ.1 86 23 = nI (k + i) → ∃ τ', lp (f_X12_when_l79 (nI r) (nI mark) (nI mm) k125) m (-9, nI i, τ) = k125 ((whN pl x r mark k d i).1, τ') ∧ GM τ' (nit pl x (whN pl x r mark k d i).2) ∧ FM τ τ'
  | d, i, 0, τ, _, h, _, _, _, _ => absurd h (by omega)
  | 0, i, m + 1, τ, h1, h2, hP, hG, hO, hkk => by
    refine ⟨τ, ?_, hG, FM_0 _⟩
    rw [lp_succ]
    simp (disch := omega) only [f_X12_when_l79, le_t]
    rfl
  | d + 1, i, m + 1, τ, h1, h2, hP, hG, hO, hkk => by
    have e9 : ¬ ((0 : Int32) ≤ -9) := by decide
    rw [lp_succ]
    by_cases h5 : 5000 ≤ k + i
    · refine ⟨τ, ?_, ?_, FM_0 _⟩
      · simp (disch := omega) only [f_X12_when_l79, le_f, hkk, show (5000 : Int32) = nI 5000 from rfl, le_t, whN, if_pos h5]
      · unfold whN; rw [if_pos h5]; exact hG
    · obtain ⟨τ1, g1, g2, g6, g3, g4⟩ := m_pass1 hB hP hBB (show i < mm by omega) hN hW hG hO hkk
      have hP1 : PM τ1 pl := PM_fm g4 hP
      have g5 := m_push hB hP1 g2.1 (nit_lt hB hN hW (show i + 1 ≤ mm by omega) hBB) hr
      have h6 := psN_lt pl (nit pl x (i + 1)).1.1 r
      by_cases h7 : mark ≤ psN pl (nit pl x (i + 1)).1.1 r
      · obtain ⟨τ2, u1, u2, u3⟩ := m_when hB hBB hmm hk hmk hr hN hW k125 d (i + 1) m τ1 (by omega) (by omega) hP1 g2 g6 g3
        refine ⟨τ2, ?_, ?_, FM_t g4 u3⟩
        · rw [whN, if_neg h5, if_pos h7, ← u1]
          generalize lp (f_X12_when_l79 (nI r) (nI mark) (nI mm) k125) m = K
          simp (disch := omega) only [f_X12_when_l79, f_X12_when_j119, jn_e, le_f, hkk, show (5000 : Int32) = nI 5000 from rfl, if_neg e9, g1, cr_s, g5, le_t, lt_e, nI_1]
        · rw [whN, if_neg h5, if_pos h7]; exact u2
      · refine ⟨τ1, ?_, ?_, g4⟩
        · rw [whN, if_neg h5, if_neg h7]
          obtain ⟨m, rfl⟩ : ∃ m', m = m' + 1 := ⟨m - 1, by omega⟩
          have e0 : ∀ K : (Int32 × Int32 × Hp) → Option (Int32 × Hp), f_X12_when_l79 (nI r) (nI mark) (nI mm) k125 K (-9, nI i, τ) = K (nI (k + (i + 1)), nI (i + 1), τ1) := fun K => by
            simp (disch := omega) only [f_X12_when_l79, f_X12_when_j119, jn_e, le_f, hkk, show (5000 : Int32) = nI 5000 from rfl, if_neg e9, g1, cr_s, g5, lt_e, nI_1, g3]
          rw [e0, lp_succ]
          generalize lp (f_X12_when_l79 (nI r) (nI mark) (nI mm) k125) m = K
          have e1 : (0 : Int32) ≤ nI (k + (i + 1)) := nI_pos' (by omega)
          simp (disch := omega) only [f_X12_when_l79, if_pos e1, ite_self]
        · rw [whN, if_neg h5, if_neg h7]; exact g2
