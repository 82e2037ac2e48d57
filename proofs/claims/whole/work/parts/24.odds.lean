/-- both ways to count, for every number of parts -/
theorem lp_succ {α β : Type} (F : (β → Option α) → β → Option α) (n : Nat) (s : β) : lp F (n + 1) s = F (lp F n) s := rfl
theorem FU_e : FU = 1099511627776 := rfl
set_option maxRecDepth 100000 in
theorem wy_same : ∀ n, n < 31 → ∀ k, k < 32 → f_X11_choices (nI n) (nI k) = f_X12_ways (nI n) (nI k) ∧ (f_X11_choices (nI n) (nI k)).isSome = true := by
  decide +kernel
theorem wy_get {n k : Nat} (hn : n < 31) (hk : k < 32) : ∃ v, f_X11_choices (nI n) (nI k) = some v ∧ f_X12_ways (nI n) (nI k) = some v := by
  obtain ⟨h1, h2⟩ := wy_same n hn k hk
  cases h : f_X11_choices (nI n) (nI k) with
  | none => rw [h] at h2; cases h2
  | some v => exact ⟨v, rfl, by rw [← h1, h]⟩
theorem nI_of_toInt {a : Int32} (h : 0 ≤ a.toInt) : a = nI a.toInt.toNat := by
  have h2 := i32_bd a
  rw [i32_eq, nI_toInt (by omega)]
  omega
/-- the sums of both run alike -/
theorem pass_same (N B T C : Nat) (hN : N < 31) (hB : B ≤ N) (hT : T ≤ 20) (hC : C ≤ T) (τ : Hp) : ∀ (d k m : Nat) (s : Int64), C + 1 = k + d → d < m →
    ∃ r, lp (f_X11_passing_l6 (nI N) (nI B) (nI T) (nI C)) m (s, nI k) = some r ∧ lp (f_X12_odds_l109 (nI N) (nI B) (nI T) (nI C) τ) m (s, nI k) = some (r, τ)
  | 0, k, 0, s, h1, h2 => absurd h2 (by omega)
  | d, k, 0, s, h1, h2 => absurd h2 (by omega)
  | 0, k, m + 1, s, h1, h2 => by
    refine ⟨s, ?_, ?_⟩
    · rw [lp_succ]
      unfold f_X11_passing_l6
      rw [if_pos]
      show nI C < nI k
      rw [i32_lt, nI_toInt (by omega), nI_toInt (by omega)]
      omega
    · rw [lp_succ]
      unfold f_X12_odds_l109
      rw [if_pos]
      show nI C < nI k
      rw [i32_lt, nI_toInt (by omega), nI_toInt (by omega)]
      omega
  | d + 1, k, m + 1, s, h1, h2 => by
    have hlt : ¬ nI C < nI k := by
      rw [i32_lt, nI_toInt (by omega), nI_toInt (by omega)]
      omega
    obtain ⟨v2, a1, a2⟩ := wy_get (n := B) (k := k) (by omega) (by omega)
    obtain ⟨v3, b1, b2⟩ := wy_get (n := N - B) (k := T - k) (by omega) (by omega)
    obtain ⟨r, c1, c2⟩ := pass_same N B T C hN hB hT hC τ d (k + 1) m (s + v2 * v3) (by omega) (by omega)
    have e1 : nI N - nI B = nI (N - B) := pk_sub hB
    have e2 : nI T - nI k = nI (T - k) := pk_sub (by omega)
    have e3 : nI k + 1 = nI (k + 1) := nI_1 k
    refine ⟨r, ?_, ?_⟩
    · rw [lp_succ]
      generalize lp (f_X11_passing_l6 (nI N) (nI B) (nI T) (nI C)) m = K at c1 ⊢
      unfold f_X11_passing_l6
      simp only [if_neg hlt, e1, e2, a1, b1, cr_s, lt_e, e3]
      exact c1
    · rw [lp_succ]
      generalize lp (f_X12_odds_l109 (nI N) (nI B) (nI T) (nI C) τ) m = K at c2 ⊢
      unfold f_X12_odds_l109
      simp only [if_neg hlt, e1, e2, a2, b2, cr_s, lt_e, e3]
      exact c2
/-- a call that both refuse alike -/
def Rfs (k : Nat) (v : Int32) (σ τ : Hp) (x y : Option (Int32 × Hp)) : Prop := x = some (v, rfC k σ) ∧ y = some (v, rfM k τ)
theorem q_odds (a b c d e : Int32) (σ τ : Hp) : (∃ r, f_X11_odds a b c d e σ = some (r, σ) ∧ f_X12_odds a b c d e τ = some (r, τ)) ∨ (f_X11_odds a b c d e σ = some ((-2 : Int32).toInt64, rfC 2 σ) ∧ f_X12_odds a b c d e τ = some ((-2 : Int32).toInt64, rfM 2 τ)) ∨ (f_X11_odds a b c d e σ = some ((-4 : Int32).toInt64, rfC 4 σ) ∧ f_X12_odds a b c d e τ = some ((-4 : Int32).toInt64, rfM 4 τ)) ∨ (f_X11_odds a b c d e σ = some ((-6 : Int32).toInt64, rfC 6 σ) ∧ f_X12_odds a b c d e τ = some ((-6 : Int32).toInt64, rfM 6 τ)) := by
  simp only [f_X11_odds, f_X11_odds_j108, f_X11_odds_j72, f_X11_odds_j67, f_X11_odds_j39, f_X11_odds_j34, f_X11_odds_j16, f_X12_odds, f_X12_odds_j76, f_X12_odds_j37, f_X12_odds_j70, jn_e, k_within, k_isIn, rf_2, rf_4, rf_6, rf_0, cl_s, z0z, z1z, n2z, n4z, n6z, e_no2, e_no4, e_no6, l_0, l_2, d_0, d_1, Int.reduceAdd, if_true, if_false]
  by_cases h1 : 0 ≤ e.toInt ∧ e.toInt < 2
  · simp only [if_pos h1]
    by_cases h2 : a < 1
    · simp only [if_pos h2, ite_self]; exact Or.inr (Or.inr (Or.inl ⟨trivial, trivial⟩))
    simp only [if_neg h2]
    by_cases h3 : b < 0
    · simp only [if_pos h3, ite_self]; exact Or.inr (Or.inr (Or.inl ⟨trivial, trivial⟩))
    simp only [if_neg h3]
    by_cases h4 : c < 0
    · simp only [if_pos h4, ite_self]; exact Or.inr (Or.inr (Or.inl ⟨trivial, trivial⟩))
    simp only [if_neg h4]
    by_cases h5 : 0 ≤ d
    · simp only [if_pos h5]
      by_cases h6 : 30 < a
      · simp only [if_pos h6]; exact Or.inr (Or.inr (Or.inr ⟨trivial, trivial⟩))
      simp only [if_neg h6]
      by_cases h7 : a < b
      · simp only [if_pos h7]; exact Or.inr (Or.inr (Or.inr ⟨trivial, trivial⟩))
      simp only [if_neg h7]
      by_cases h8 : 20 < c
      · simp only [if_pos h8]; exact Or.inr (Or.inr (Or.inr ⟨trivial, trivial⟩))
      simp only [if_neg h8]
      by_cases h9 : a < c
      · simp only [if_pos h9]; exact Or.inr (Or.inr (Or.inr ⟨trivial, trivial⟩))
      simp only [if_neg h9]
      by_cases h10 : d ≤ c
      · simp only [if_pos h10]
        left
        simp only [i32_lt, i32_le, l_0, l_1, l_30, l_20] at h2 h3 h4 h5 h6 h7 h8 h9 h10
        obtain ⟨A, hA⟩ : ∃ A : Nat, a.toInt.toNat = A := ⟨_, rfl⟩
        obtain ⟨B, hB⟩ : ∃ A : Nat, b.toInt.toNat = A := ⟨_, rfl⟩
        obtain ⟨C, hC⟩ : ∃ A : Nat, c.toInt.toNat = A := ⟨_, rfl⟩
        obtain ⟨D, hD⟩ : ∃ A : Nat, d.toInt.toNat = A := ⟨_, rfl⟩
        have ea := nI_of_toInt (a := a) (by omega)
        have eb := nI_of_toInt (a := b) (by omega)
        have ec := nI_of_toInt (a := c) (by omega)
        have ed := nI_of_toInt (a := d) (by omega)
        rw [hA] at ea
        rw [hB] at eb
        rw [hC] at ec
        rw [hD] at ed
        subst ea eb ec ed
        by_cases h11 : e = 1
        · simp only [if_pos h11]
          obtain ⟨v, a1, a2⟩ := wy_get (n := A) (k := C) (by omega) (by omega)
          exact ⟨v, by simp only [a1, cr_s, if_true], by simp only [a2, cr_s, if_true]⟩
        · simp only [if_neg h11, if_true]
          obtain ⟨r, c1, c2⟩ := pass_same A B C D (by omega) (by omega) (by omega) (by omega) τ (D + 1) 0 FU 0 (by omega) (by rw [FU_e]; omega)
          refine ⟨r, ?_, c2⟩
          unfold f_X11_passing
          simp only [show ((0 : Int32)) = nI 0 from rfl, c1, cr_s]
      · simp only [if_neg h10]; exact Or.inr (Or.inr (Or.inr ⟨trivial, trivial⟩))
    · simp only [if_neg h5, ite_self]; exact Or.inr (Or.inr (Or.inl ⟨trivial, trivial⟩))
  · simp only [if_neg h1, ite_self]
    exact Or.inr (Or.inl ⟨trivial, trivial⟩)
