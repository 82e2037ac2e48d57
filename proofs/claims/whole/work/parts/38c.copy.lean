/-! copies, kept and brought back -/
theorem cpk1 (τ : Hp) (k76 : Hp → Option Hp) : ∃ τ', lp (f_X12_copies_l2 (1 : Int32) k76) FU ((0 : Int32), τ) = k76 τ' ∧ (∀ k, k < 15 → τ'.1 109 k = τ.1 99 k ∧ τ'.1 110 k = τ.1 100 k) ∧ (∀ k, 15 ≤ k → τ'.1 109 k = τ.1 109 k ∧ τ'.1 110 k = τ.1 110 k) ∧ fr [109, 110] τ τ' := by
  have z1 : ¬ ((1 : Int32) = 0) := by decide
  refine lp_h (Q := fun r => ∃ τ', r = k76 τ' ∧ (∀ k, k < 15 → τ'.1 109 k = τ.1 99 k ∧ τ'.1 110 k = τ.1 100 k) ∧ (∀ k, 15 ≤ k → τ'.1 109 k = τ.1 109 k ∧ τ'.1 110 k = τ.1 110 k) ∧ fr [109, 110] τ τ') 15 (fun i ρ => (∀ k, k < i → ρ.1 109 k = τ.1 99 k ∧ ρ.1 110 k = τ.1 100 k) ∧ (∀ k, 15 ≤ k → ρ.1 109 k = τ.1 109 k ∧ ρ.1 110 k = τ.1 110 k) ∧ fr [109, 110] τ ρ) ?_ ?_ (by omega) ⟨fun k h => absurd h (by omega), fun k h => ⟨rfl, rfl⟩, fr_0 _ _⟩
  · rintro i ρ hi ⟨h1, h2, h3⟩ K
    refine ⟨(sI (sI ρ 109 i (τ.1 99 i)) 110 i (τ.1 100 i)), ⟨fun k hk => ?_, fun k hk => ?_, fr_s (by decide) (fr_s (by decide) (h3))⟩, ?_⟩
    · show upd (ρ.1 109) i _ k = _ ∧ upd (ρ.1 110) i _ k = _
      by_cases e : k = i
      · subst e; exact ⟨pk_us, pk_us⟩
      · rw [pk_un e, pk_un e]; exact h1 k (by omega)
    · show upd (ρ.1 109) i _ k = _ ∧ upd (ρ.1 110) i _ k = _
      rw [pk_un (show k ≠ i by omega), pk_un (show k ≠ i by omega)]; exact h2 k hk
    · simp (disch := omega) only [f_X12_copies_l2, f_X12_copies_j39, f_X12_copies_j70, jn_e, lt_e, n_15, le_f, if_neg z1, ldI_n, stI_n, stZ_n, sI_1, reduceIte, Nat.reduceEqDiff, nI_1, h3 99 (by decide), h3 100 (by decide)]
  · rintro ρ ⟨h1, h2, h3⟩ K
    refine ⟨ρ, ?_, h1, h2, h3⟩
    simp (disch := omega) only [f_X12_copies_l2, n_15, le_t]
theorem cpk2 (τ : Hp) (k121 : Hp → Option Hp) : ∃ τ', lp (f_X12_copies_l78 (1 : Int32) k121) FU ((0 : Int32), τ) = k121 τ' ∧ (∀ k, k < 24 → τ'.1 111 k = τ.1 101 k) ∧ (∀ k, 24 ≤ k → τ'.1 111 k = τ.1 111 k) ∧ fr [111] τ τ' := by
  have z1 : ¬ ((1 : Int32) = 0) := by decide
  refine lp_h (Q := fun r => ∃ τ', r = k121 τ' ∧ (∀ k, k < 24 → τ'.1 111 k = τ.1 101 k) ∧ (∀ k, 24 ≤ k → τ'.1 111 k = τ.1 111 k) ∧ fr [111] τ τ') 24 (fun i ρ => (∀ k, k < i → ρ.1 111 k = τ.1 101 k) ∧ (∀ k, 24 ≤ k → ρ.1 111 k = τ.1 111 k) ∧ fr [111] τ ρ) ?_ ?_ (by omega) ⟨fun k h => absurd h (by omega), fun k h => rfl, fr_0 _ _⟩
  · rintro i ρ hi ⟨h1, h2, h3⟩ K
    refine ⟨(sI ρ 111 i (τ.1 101 i)), ⟨fun k hk => ?_, fun k hk => ?_, fr_s (by decide) (h3)⟩, ?_⟩
    · show upd (ρ.1 111) i _ k = _
      by_cases e : k = i
      · subst e; exact pk_us
      · rw [pk_un e]; exact h1 k (by omega)
    · show upd (ρ.1 111) i _ k = _
      rw [pk_un (show k ≠ i by omega)]; exact h2 k hk
    · simp (disch := omega) only [f_X12_copies_l78, f_X12_copies_j115, jn_e, lt_e, n_24, le_f, if_neg z1, ldI_n, stI_n, stZ_n, sI_1, reduceIte, Nat.reduceEqDiff, nI_1, h3 101 (by decide)]
  · rintro ρ ⟨h1, h2, h3⟩ K
    refine ⟨ρ, ?_, h1, h2, h3⟩
    simp (disch := omega) only [f_X12_copies_l78, n_24, le_t]
theorem cpk3 (τ : Hp) (k196 : Hp → Option Hp) : ∃ τ', lp (f_X12_copies_l123 (1 : Int32) k196) FU ((0 : Int32), τ) = k196 τ' ∧ (∀ k, k < 3 → τ'.1 112 k = τ.1 102 k ∧ τ'.1 113 k = τ.1 103 k) ∧ (∀ k, 3 ≤ k → τ'.1 112 k = τ.1 112 k ∧ τ'.1 113 k = τ.1 113 k) ∧ fr [112, 113] τ τ' := by
  have z1 : ¬ ((1 : Int32) = 0) := by decide
  refine lp_h (Q := fun r => ∃ τ', r = k196 τ' ∧ (∀ k, k < 3 → τ'.1 112 k = τ.1 102 k ∧ τ'.1 113 k = τ.1 103 k) ∧ (∀ k, 3 ≤ k → τ'.1 112 k = τ.1 112 k ∧ τ'.1 113 k = τ.1 113 k) ∧ fr [112, 113] τ τ') 3 (fun i ρ => (∀ k, k < i → ρ.1 112 k = τ.1 102 k ∧ ρ.1 113 k = τ.1 103 k) ∧ (∀ k, 3 ≤ k → ρ.1 112 k = τ.1 112 k ∧ ρ.1 113 k = τ.1 113 k) ∧ fr [112, 113] τ ρ) ?_ ?_ (by omega) ⟨fun k h => absurd h (by omega), fun k h => ⟨rfl, rfl⟩, fr_0 _ _⟩
  · rintro i ρ hi ⟨h1, h2, h3⟩ K
    refine ⟨(sI (sI ρ 112 i (τ.1 102 i)) 113 i (τ.1 103 i)), ⟨fun k hk => ?_, fun k hk => ?_, fr_s (by decide) (fr_s (by decide) (h3))⟩, ?_⟩
    · show upd (ρ.1 112) i _ k = _ ∧ upd (ρ.1 113) i _ k = _
      by_cases e : k = i
      · subst e; exact ⟨pk_us, pk_us⟩
      · rw [pk_un e, pk_un e]; exact h1 k (by omega)
    · show upd (ρ.1 112) i _ k = _ ∧ upd (ρ.1 113) i _ k = _
      rw [pk_un (show k ≠ i by omega), pk_un (show k ≠ i by omega)]; exact h2 k hk
    · simp (disch := omega) only [f_X12_copies_l123, f_X12_copies_j159, f_X12_copies_j190, jn_e, lt_e, n_3, le_f, if_neg z1, ldI_n, stI_n, stZ_n, sI_1, reduceIte, Nat.reduceEqDiff, nI_1, h3 102 (by decide), h3 103 (by decide)]
  · rintro ρ ⟨h1, h2, h3⟩ K
    refine ⟨ρ, ?_, h1, h2, h3⟩
    simp (disch := omega) only [f_X12_copies_l123, n_3, le_t]
theorem cpk4 (τ : Hp) : ∃ τ', lp (f_X12_copies_l198 (1 : Int32)) FU ((0 : Int32), τ) = some τ' ∧ (∀ k, k < 8 → τ'.1 114 k = vp_nar .boolean (τ.1 106 k)) ∧ (∀ k, 8 ≤ k → τ'.1 114 k = τ.1 114 k) ∧ fr [114] τ τ' := by
  have z1 : ¬ ((1 : Int32) = 0) := by decide
  refine lp_h (Q := fun r => ∃ τ', r = some τ' ∧ (∀ k, k < 8 → τ'.1 114 k = vp_nar .boolean (τ.1 106 k)) ∧ (∀ k, 8 ≤ k → τ'.1 114 k = τ.1 114 k) ∧ fr [114] τ τ') 8 (fun i ρ => (∀ k, k < i → ρ.1 114 k = vp_nar .boolean (τ.1 106 k)) ∧ (∀ k, 8 ≤ k → ρ.1 114 k = τ.1 114 k) ∧ fr [114] τ ρ) ?_ ?_ (by omega) ⟨fun k h => absurd h (by omega), fun k h => rfl, fr_0 _ _⟩
  · rintro i ρ hi ⟨h1, h2, h3⟩ K
    refine ⟨(sI ρ 114 i (vp_nar .boolean (τ.1 106 i))), ⟨fun k hk => ?_, fun k hk => ?_, fr_s (by decide) (h3)⟩, ?_⟩
    · show upd (ρ.1 114) i _ k = _
      by_cases e : k = i
      · subst e; exact pk_us
      · rw [pk_un e]; exact h1 k (by omega)
    · show upd (ρ.1 114) i _ k = _
      rw [pk_un (show k ≠ i by omega)]; exact h2 k hk
    · simp (disch := omega) only [f_X12_copies_l198, f_X12_copies_j235, jn_e, lt_e, n_8, le_f, if_neg z1, ldI_n, stI_n, stZ_n, sI_1, reduceIte, Nat.reduceEqDiff, nI_1, h3 106 (by decide)]
  · rintro ρ ⟨h1, h2, h3⟩ K
    refine ⟨ρ, ?_, h1, h2, h3⟩
    simp (disch := omega) only [f_X12_copies_l198, n_8, le_t]
theorem cpb1 (τ : Hp) (k76 : Hp → Option Hp) : ∃ τ', lp (f_X12_copies_l2 (0 : Int32) k76) FU ((0 : Int32), τ) = k76 τ' ∧ (∀ k, k < 15 → τ'.1 99 k = τ.1 109 k ∧ τ'.1 100 k = τ.1 110 k) ∧ (∀ k, 15 ≤ k → τ'.1 99 k = τ.1 99 k ∧ τ'.1 100 k = τ.1 100 k) ∧ fr [99, 100] τ τ' := by
  refine lp_h (Q := fun r => ∃ τ', r = k76 τ' ∧ (∀ k, k < 15 → τ'.1 99 k = τ.1 109 k ∧ τ'.1 100 k = τ.1 110 k) ∧ (∀ k, 15 ≤ k → τ'.1 99 k = τ.1 99 k ∧ τ'.1 100 k = τ.1 100 k) ∧ fr [99, 100] τ τ') 15 (fun i ρ => (∀ k, k < i → ρ.1 99 k = τ.1 109 k ∧ ρ.1 100 k = τ.1 110 k) ∧ (∀ k, 15 ≤ k → ρ.1 99 k = τ.1 99 k ∧ ρ.1 100 k = τ.1 100 k) ∧ fr [99, 100] τ ρ) ?_ ?_ (by omega) ⟨fun k h => absurd h (by omega), fun k h => ⟨rfl, rfl⟩, fr_0 _ _⟩
  · rintro i ρ hi ⟨h1, h2, h3⟩ K
    refine ⟨(sI (sI ρ 99 i (τ.1 109 i)) 100 i (τ.1 110 i)), ⟨fun k hk => ?_, fun k hk => ?_, fr_s (by decide) (fr_s (by decide) (h3))⟩, ?_⟩
    · show upd (ρ.1 99) i _ k = _ ∧ upd (ρ.1 100) i _ k = _
      by_cases e : k = i
      · subst e; exact ⟨pk_us, pk_us⟩
      · rw [pk_un e, pk_un e]; exact h1 k (by omega)
    · show upd (ρ.1 99) i _ k = _ ∧ upd (ρ.1 100) i _ k = _
      rw [pk_un (show k ≠ i by omega), pk_un (show k ≠ i by omega)]; exact h2 k hk
    · simp (disch := omega) only [f_X12_copies_l2, f_X12_copies_j39, f_X12_copies_j70, jn_e, lt_e, n_15, le_f, if_true, ldI_n, stI_n, stZ_n, sI_1, reduceIte, Nat.reduceEqDiff, nI_1, h3 109 (by decide), h3 110 (by decide)]
  · rintro ρ ⟨h1, h2, h3⟩ K
    refine ⟨ρ, ?_, h1, h2, h3⟩
    simp (disch := omega) only [f_X12_copies_l2, n_15, le_t]
theorem cpb2 (τ : Hp) (k121 : Hp → Option Hp) : ∃ τ', lp (f_X12_copies_l78 (0 : Int32) k121) FU ((0 : Int32), τ) = k121 τ' ∧ (∀ k, k < 24 → τ'.1 101 k = τ.1 111 k) ∧ (∀ k, 24 ≤ k → τ'.1 101 k = τ.1 101 k) ∧ fr [101] τ τ' := by
  refine lp_h (Q := fun r => ∃ τ', r = k121 τ' ∧ (∀ k, k < 24 → τ'.1 101 k = τ.1 111 k) ∧ (∀ k, 24 ≤ k → τ'.1 101 k = τ.1 101 k) ∧ fr [101] τ τ') 24 (fun i ρ => (∀ k, k < i → ρ.1 101 k = τ.1 111 k) ∧ (∀ k, 24 ≤ k → ρ.1 101 k = τ.1 101 k) ∧ fr [101] τ ρ) ?_ ?_ (by omega) ⟨fun k h => absurd h (by omega), fun k h => rfl, fr_0 _ _⟩
  · rintro i ρ hi ⟨h1, h2, h3⟩ K
    refine ⟨(sI ρ 101 i (τ.1 111 i)), ⟨fun k hk => ?_, fun k hk => ?_, fr_s (by decide) (h3)⟩, ?_⟩
    · show upd (ρ.1 101) i _ k = _
      by_cases e : k = i
      · subst e; exact pk_us
      · rw [pk_un e]; exact h1 k (by omega)
    · show upd (ρ.1 101) i _ k = _
      rw [pk_un (show k ≠ i by omega)]; exact h2 k hk
    · simp (disch := omega) only [f_X12_copies_l78, f_X12_copies_j115, jn_e, lt_e, n_24, le_f, if_true, ldI_n, stI_n, stZ_n, sI_1, reduceIte, Nat.reduceEqDiff, nI_1, h3 111 (by decide)]
  · rintro ρ ⟨h1, h2, h3⟩ K
    refine ⟨ρ, ?_, h1, h2, h3⟩
    simp (disch := omega) only [f_X12_copies_l78, n_24, le_t]
theorem cpb3 (τ : Hp) (k196 : Hp → Option Hp) : ∃ τ', lp (f_X12_copies_l123 (0 : Int32) k196) FU ((0 : Int32), τ) = k196 τ' ∧ (∀ k, k < 3 → τ'.1 102 k = τ.1 112 k ∧ τ'.1 103 k = τ.1 113 k) ∧ (∀ k, 3 ≤ k → τ'.1 102 k = τ.1 102 k ∧ τ'.1 103 k = τ.1 103 k) ∧ fr [102, 103] τ τ' := by
  refine lp_h (Q := fun r => ∃ τ', r = k196 τ' ∧ (∀ k, k < 3 → τ'.1 102 k = τ.1 112 k ∧ τ'.1 103 k = τ.1 113 k) ∧ (∀ k, 3 ≤ k → τ'.1 102 k = τ.1 102 k ∧ τ'.1 103 k = τ.1 103 k) ∧ fr [102, 103] τ τ') 3 (fun i ρ => (∀ k, k < i → ρ.1 102 k = τ.1 112 k ∧ ρ.1 103 k = τ.1 113 k) ∧ (∀ k, 3 ≤ k → ρ.1 102 k = τ.1 102 k ∧ ρ.1 103 k = τ.1 103 k) ∧ fr [102, 103] τ ρ) ?_ ?_ (by omega) ⟨fun k h => absurd h (by omega), fun k h => ⟨rfl, rfl⟩, fr_0 _ _⟩
  · rintro i ρ hi ⟨h1, h2, h3⟩ K
    refine ⟨(sI (sI ρ 102 i (τ.1 112 i)) 103 i (τ.1 113 i)), ⟨fun k hk => ?_, fun k hk => ?_, fr_s (by decide) (fr_s (by decide) (h3))⟩, ?_⟩
    · show upd (ρ.1 102) i _ k = _ ∧ upd (ρ.1 103) i _ k = _
      by_cases e : k = i
      · subst e; exact ⟨pk_us, pk_us⟩
      · rw [pk_un e, pk_un e]; exact h1 k (by omega)
    · show upd (ρ.1 102) i _ k = _ ∧ upd (ρ.1 103) i _ k = _
      rw [pk_un (show k ≠ i by omega), pk_un (show k ≠ i by omega)]; exact h2 k hk
    · simp (disch := omega) only [f_X12_copies_l123, f_X12_copies_j159, f_X12_copies_j190, jn_e, lt_e, n_3, le_f, if_true, ldI_n, stI_n, stZ_n, sI_1, reduceIte, Nat.reduceEqDiff, nI_1, h3 112 (by decide), h3 113 (by decide)]
  · rintro ρ ⟨h1, h2, h3⟩ K
    refine ⟨ρ, ?_, h1, h2, h3⟩
    simp (disch := omega) only [f_X12_copies_l123, n_3, le_t]
theorem cpb4 (τ : Hp) : ∃ τ', lp (f_X12_copies_l198 (0 : Int32)) FU ((0 : Int32), τ) = some τ' ∧ (∀ k, k < 8 → τ'.1 106 k = vp_nar .boolean (τ.1 114 k)) ∧ (∀ k, 8 ≤ k → τ'.1 106 k = τ.1 106 k) ∧ fr [106] τ τ' := by
  refine lp_h (Q := fun r => ∃ τ', r = some τ' ∧ (∀ k, k < 8 → τ'.1 106 k = vp_nar .boolean (τ.1 114 k)) ∧ (∀ k, 8 ≤ k → τ'.1 106 k = τ.1 106 k) ∧ fr [106] τ τ') 8 (fun i ρ => (∀ k, k < i → ρ.1 106 k = vp_nar .boolean (τ.1 114 k)) ∧ (∀ k, 8 ≤ k → ρ.1 106 k = τ.1 106 k) ∧ fr [106] τ ρ) ?_ ?_ (by omega) ⟨fun k h => absurd h (by omega), fun k h => rfl, fr_0 _ _⟩
  · rintro i ρ hi ⟨h1, h2, h3⟩ K
    refine ⟨(sI ρ 106 i (vp_nar .boolean (τ.1 114 i))), ⟨fun k hk => ?_, fun k hk => ?_, fr_s (by decide) (h3)⟩, ?_⟩
    · show upd (ρ.1 106) i _ k = _
      by_cases e : k = i
      · subst e; exact pk_us
      · rw [pk_un e]; exact h1 k (by omega)
    · show upd (ρ.1 106) i _ k = _
      rw [pk_un (show k ≠ i by omega)]; exact h2 k hk
    · simp (disch := omega) only [f_X12_copies_l198, f_X12_copies_j235, jn_e, lt_e, n_8, le_f, if_true, ldI_n, stI_n, stZ_n, sI_1, reduceIte, Nat.reduceEqDiff, nI_1, h3 114 (by decide)]
  · rintro ρ ⟨h1, h2, h3⟩ K
    refine ⟨ρ, ?_, h1, h2, h3⟩
    simp (disch := omega) only [f_X12_copies_l198, n_8, le_t]
