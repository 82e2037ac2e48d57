/-! ===== acts: room is made, and one is done ===== -/
theorem cpI_1 {α : Type} {σ : Hp} {k : Nat} {f : Hp → Option α} : cpI σ k 30 k 30 (1 : Int32) (0 : Int32) (29 : Int32) f = f (sR σ k (va_cpy (σ.1 k) (σ.1 k) 1 0 29)) := by
  unfold cpI
  rw [if_neg]
  · rfl
  · decide
theorem cpy_1 {f g : Nat → Int32} {k : Nat} (h : k < 29) : va_cpy f g 1 0 29 k = f (k + 1) := by
  unfold va_cpy
  rw [if_pos (by omega)]
  congr 1
  omega
/-- where the acts begin, and how many are left -/
def offN (d : Nat) : Nat := if d = 30 then 1 else 0
theorem c_room {σ : Hp} {d : Nat} (hd : d ≤ 30) (h3 : σ.1 25 3 = nI d) (k a : Int32) : ∃ σ1, f_X0_perform k a σ = f_X0_perform_j13 k a σ1 ∧ σ1.1 25 3 = nI (d - offN d) ∧ (∀ j, j < d - offN d → σ1.1 26 j = σ.1 26 (j + offN d) ∧ σ1.1 27 j = σ.1 27 (j + offN d) ∧ σ1.1 28 j = σ.1 28 (j + offN d)) ∧ fr [25, 26, 27, 28] σ σ1 := by
  unfold f_X0_perform offN
  by_cases e : d = 30
  · subst e
    refine ⟨sI (sR (sR (sR σ 26 (va_cpy (σ.1 26) (σ.1 26) 1 0 29)) 27 (va_cpy (σ.1 27) (σ.1 27) 1 0 29)) 28 (va_cpy (σ.1 28) (σ.1 28) 1 0 29)) 25 3 29, ?_, rfl, fun j hj => ⟨cpy_1 hj, cpy_1 hj, cpy_1 hj⟩, fr_s (by decide) (fr_r (by decide) (fr_r (by decide) (fr_r (by decide) (fr_0 _ _))))⟩
    rw [jn_e, h3, if_pos (by decide)]
    unfold f_X0_dropFirst
    rw [cpI_1, cpI_1, cpI_1, lt_e, cr_s]
    rfl
  · refine ⟨σ, ?_, ?_, fun j hj => ?_, fr_0 _ _⟩
    · rw [jn_e, h3, if_neg]
      intro hh
      have := congrArg Int32.toInt hh
      rw [nI_toInt (by omega), show (30 : Int32).toInt = 30 from rfl] at this
      omega
    · rw [if_neg e]; exact h3
    · rw [if_neg e]; exact ⟨rfl, rfl, rfl⟩
theorem m_room {τ : Hp} {d : Nat} (hd : d ≤ 30) (h3 : τ.1 86 50 = nI d) (k a v : Int32) : ∃ τ1, f_X12_acts k a v τ = f_X12_acts_j104 k a v τ1 ∧ τ1.1 86 50 = nI (d - offN d) ∧ τ1.1 86 51 = 0 ∧ (∀ j, j < d - offN d → τ1.1 122 j = τ.1 122 (j + offN d) ∧ τ1.1 123 j = τ.1 123 (j + offN d) ∧ τ1.1 124 j = τ.1 124 (j + offN d) ∧ τ1.1 125 j = τ.1 125 (j + offN d)) ∧ (∀ j, j ≠ 50 → j ≠ 51 → τ1.1 86 j = τ.1 86 j) ∧ fr [86, 122, 123, 124, 125] τ τ1 := by
  unfold f_X12_acts offN
  have hf : fr [86, 122, 123, 124, 125] τ (sI τ 86 51 0) := fr_s (by decide) (fr_0 _ _)
  have h50 : (sI τ 86 51 0).1 86 50 = nI d := h3
  by_cases e : d = 30
  · subst e
    rw [lt_e, jn_e, h50, if_pos (by decide), jn_e]
    refine lp_hf (σ := sI τ 86 51 0) (Q := fun r => ∃ τ1, r = f_X12_acts_j104 k a v τ1 ∧ τ1.1 86 50 = nI (30 - 1) ∧ τ1.1 86 51 = 0 ∧ (∀ j, j < 30 - 1 → τ1.1 122 j = τ.1 122 (j + 1) ∧ τ1.1 123 j = τ.1 123 (j + 1) ∧ τ1.1 124 j = τ.1 124 (j + 1) ∧ τ1.1 125 j = τ.1 125 (j + 1)) ∧ (∀ j, j ≠ 50 → j ≠ 51 → τ1.1 86 j = τ.1 86 j) ∧ fr [86, 122, 123, 124, 125] τ τ1) 1 30 (fun i ρ => ((∀ j, j + 1 < i → ρ.1 122 j = τ.1 122 (j + 1) ∧ ρ.1 123 j = τ.1 123 (j + 1) ∧ ρ.1 124 j = τ.1 124 (j + 1) ∧ ρ.1 125 j = τ.1 125 (j + 1)) ∧ (∀ j, i ≤ j + 1 → j < 30 → (i ≤ j → ρ.1 122 j = τ.1 122 j ∧ ρ.1 123 j = τ.1 123 j ∧ ρ.1 124 j = τ.1 124 j ∧ ρ.1 125 j = τ.1 125 j))) ∧ fr [122, 123, 124, 125] (sI τ 86 51 0) ρ) ?_ ?_ (by omega) (by omega) ⟨⟨fun j hj => absurd hj (by omega), fun j _ _ _ => ⟨rfl, rfl, rfl, rfl⟩⟩, fr_0 _ _⟩
    · rintro i ρ hi0 hi ⟨⟨h1, h2⟩, h4⟩ K
      obtain ⟨j, rfl⟩ : ∃ j, i = j + 1 := ⟨i - 1, by omega⟩
      obtain ⟨g1, g2, g3, g4⟩ := h2 (j + 1) (by omega) (by omega) (by omega)
      refine ⟨sI (sI (sI (sI ρ 122 j (τ.1 122 (j + 1))) 123 j (τ.1 123 (j + 1))) 124 j (τ.1 124 (j + 1))) 125 j (τ.1 125 (j + 1)), ⟨⟨fun q hq => ?_, fun q hq hq30 hq1 => ?_⟩, fr_s (by decide) (fr_s (by decide) (fr_s (by decide) (fr_s (by decide) h4)))⟩, ?_⟩
      · show upd (ρ.1 122) j _ q = _ ∧ upd (ρ.1 123) j _ q = _ ∧ upd (ρ.1 124) j _ q = _ ∧ upd (ρ.1 125) j _ q = _
        by_cases e : q = j
        · rw [e, pk_us, pk_us, pk_us, pk_us]; exact ⟨rfl, rfl, rfl, rfl⟩
        · rw [pk_un e, pk_un e, pk_un e, pk_un e]; exact h1 q (by omega)
      · show upd (ρ.1 122) j _ q = _ ∧ upd (ρ.1 123) j _ q = _ ∧ upd (ρ.1 124) j _ q = _ ∧ upd (ρ.1 125) j _ q = _
        have e : q ≠ j := by omega
        rw [pk_un e, pk_un e, pk_un e, pk_un e]; exact h2 q (by omega) hq30 (by omega)
      · unfold f_X12_acts_l17
        dsimp only
        rw [show ∀ x y : Option (Int32 × Hp), (if (30 : Int32) ≤ nI (j + 1) then x else y) = y from fun x y => le_f (b := j + 1) (a := 30) hi (by omega), nI_p]
        simp (disch := omega) only [ldI_n, stI_n, sI_1, reduceIte, Nat.reduceEqDiff, g1, g2, g3, g4, lt_e, nI_1]
    · rintro ρ ⟨⟨h1, h2⟩, h4⟩ K
      have k86 : ρ.1 86 = upd (τ.1 86) 51 0 := h4 86 (by decide)
      refine ⟨sI ρ 86 50 29, ?_, rfl, ?_, fun j hj => h1 j (by omega), fun j hj1 hj2 => ?_, fr_s (by decide) (fr_t hf (fr_m (by decide) h4))⟩
      · unfold f_X12_acts_l17 f_X12_acts_j94
        dsimp only
        have k50 : ρ.1 86 50 = nI 30 := by rw [k86]; exact h3
        rw [show ∀ x y : Option (Int32 × Hp), (if (30 : Int32) ≤ nI 30 then x else y) = x from fun x y => if_pos (by decide), k50, nI_p, lt_e]
        rfl
      · show upd (ρ.1 86) 50 29 51 = 0
        rw [pk_un (by decide), k86, pk_us]
      · show upd (ρ.1 86) 50 29 j = _
        rw [pk_un hj1, k86, pk_un hj2]
  · refine ⟨sI τ 86 51 0, ?_, ?_, rfl, fun j hj => ?_, fun j hj1 hj2 => ?_, hf⟩
    · rw [lt_e, jn_e, h50, if_neg]
      intro hh
      have := congrArg Int32.toInt hh
      rw [nI_toInt (by omega), show (30 : Int32).toInt = 30 from rfl] at this
      omega
    · rw [if_neg e]; exact h50
    · rw [if_neg e]; exact ⟨rfl, rfl, rfl, rfl⟩
    · show upd (τ.1 86) 51 0 j = _
      rw [pk_un hj2]
