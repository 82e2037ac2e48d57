/-- what is answered, as a number -/
def tgZ (F : Nat → Bool) (w : Nat) : Int := if w = 0 then (cnF F 68921 : Int) else if w ≤ 3 then (if cnF F 68921 = 0 then -9 else (mnF F (vv (w - 1)) 68921 : Int)) else mxF F (vv (w - 4)) 68921
theorem c_possible {s : Nat → Nat} {q : Nat → Int} {σ : Hp} {D w : Nat} (hG : Gg s q (σ.1 68) (σ.1 69)) (hD : D ≤ 9) (hw : w ≤ 6) : ∃ r σ', f_X3_possible (nI D) (nI w) σ = some (r, σ') ∧ fr [67, 70, 71] σ σ' ∧ r.toInt = tgZ (tgK s q D) w := by
  obtain ⟨σ1, a1, a2, a3⟩ := fill_e 70 3 (by omega) 41 σ
  obtain ⟨σ2, b1, b2, b3⟩ := fill_e 71 3 (by omega) (-9) σ1
  unfold f_X3_possible
  rw [a1, cr_s, b1, cr_s, jn_e]
  have hfr2 : fr [67, 70, 71] σ σ2 := fr_t (fr_m (by decide) a3) (fr_m (by decide) b3)
  have hI0 : CIg (tgK s q D) (1681 * 0) 0 σ2 := ⟨rfl, fun g hg => by rw [b3 70 (by decide)]; exact a2 g hg, fun g hg => by rw [b2 g hg]; rfl⟩
  refine lp_n (Q := fun y => ∃ (r : Int32) (σ' : Hp), y = some (r, σ') ∧ fr [67, 70, 71] σ σ' ∧ r.toInt = tgZ (tgK s q D) w) 41 (fun a (st : Int32 × Int32 × Hp) => st.2.1 = nI a ∧ CIg (tgK s q D) (1681 * a) st.1 st.2.2 ∧ fr [67, 70, 71] σ st.2.2) ?_ ?_ 0 (by omega) (by omega) ⟨rfl, hI0, hfr2⟩
  · rintro a ⟨sum, xa, ρ⟩ ha ⟨c1, c2, c3⟩ K
    obtain rfl : xa = nI a := c1
    dsimp only at c2 c3
    have hin : ∀ (e b m : Nat) (sm : Int32) (ξ : Hp), b + e = 41 → e < m → CIg (tgK s q D) (1681 * a + 41 * b) sm ξ → fr [67, 70, 71] σ ξ → ∃ sum' ξ', lp (f_X3_possible_l33 (nI D) (sum, nI a, ρ) (f_X3_possible_j111 (sum, nI a, ρ) K)) m (sm, nI b, ξ) = K (sum', nI (a + 1), ξ') ∧ CIg (tgK s q D) (1681 * (a + 1)) sum' ξ' ∧ fr [67, 70, 71] σ ξ' := by
      intro e
      induction e with
      | zero =>
        intro b m sum1 ξ h1 h2 h3 h4
        match m, h2 with
        | m + 1, h2 =>
          refine ⟨sum1, ξ, ?_, ?_, h4⟩
          · rw [lp_succ]
            generalize lp (f_X3_possible_l33 (nI D) (sum, nI a, ρ) (f_X3_possible_j111 (sum, nI a, ρ) K)) m = K2
            unfold f_X3_possible_l33 f_X3_possible_j111
            dsimp only
            rw [if_pos (show (40 : Int32) < nI b from nI_lt (a := 40) (b := b) (by omega) (by omega)), lt_e, nI_1]
          · have : 1681 * (a + 1) = 1681 * a + 41 * b := by omega
            rw [this]; exact h3
      | succ e ih =>
        intro b m sum1 ξ h1 h2 h3 h4
        match m, h2 with
        | m + 1, h2 =>
          obtain ⟨sum2, ξ2, d1, d2, d3⟩ := c_pair (σ := ξ) (a := a) (b := b) (by rw [h4 68 (by decide), h4 69 (by decide)]; exact hG) hD ha (by omega) h3 (sum, nI a, ρ) rfl (f_X3_possible_j111 (sum, nI a, ρ) K)
          rw [lp_succ, d1]
          refine ih (b + 1) m sum2 ξ2 (by omega) (by omega) ?_ (fr_t h4 (fun c hc => ?_))
          · have : 1681 * a + 41 * (b + 1) = 1681 * a + 41 * b + 41 := by omega
            rw [this]; exact d3
          · simp only [List.mem_cons, List.not_mem_nil, or_false, not_or] at hc
            exact d2 c hc.1 hc.2.1 hc.2.2
    obtain ⟨sum2, ξ2, d1, d2, d3⟩ := hin 41 0 FU sum ρ rfl (by rw [FU_e]; omega) (by rw [Nat.mul_zero, Nat.add_zero]; exact c2) c3
    refine ⟨(sum2, nI (a + 1), ξ2), ⟨rfl, d2, d3⟩, ?_⟩
    unfold f_X3_possible_l23
    dsimp only
    rw [if_neg (show ¬ (40 : Int32) < nI a from nI_nlt (a := 40) (b := a) (by omega) (by omega)), jn_e]
    exact d1
  · rintro ⟨sum, xa, ρ⟩ ⟨c1, ⟨i1, i2, i3⟩, c3⟩ K
    obtain rfl : xa = nI 41 := c1
    dsimp only at i1 i2 i3 c3
    rw [show 1681 * 41 = 68921 from rfl] at i1 i2 i3
    have hcn := cn_le (tgK s q D) 68921
    have hcni : (nI (cnF (tgK s q D) 68921)).toInt = (cnF (tgK s q D) 68921 : Int) := nI_toInt (by omega)
    unfold f_X3_possible_l23
    dsimp only
    rw [if_pos (show (40 : Int32) < nI 41 from nI_lt (a := 40) (b := 41) (by omega) (by omega))]
    unfold f_X3_possible_j117
    dsimp only
    rw [i1]
    unfold tgZ
    by_cases w0 : w = 0
    · subst w0
      rw [if_pos (show nI 0 = 0 from rfl), if_pos rfl]
      exact ⟨_, ρ, rfl, c3, hcni⟩
    · rw [if_neg (nI_ne0 (by omega) (by omega)), if_neg w0, jn_e]
      unfold f_X3_possible_j151 f_X3_possible_j150 f_X3_possible_j177 f_X3_possible_j175
      dsimp only
      rw [if_neg (show ¬ nI w < (1 : Int32) from nI_nlt (a := w) (b := 1) (by omega) (by omega))]
      by_cases w3 : w ≤ 3
      · rw [if_neg (show ¬ (3 : Int32) < nI w from nI_nlt (a := 3) (b := w) w3 (by omega)), jn_e, if_pos w3]
        by_cases hz : cnF (tgK s q D) 68921 = 0
        · rw [hz, if_pos (show nI 0 = 0 from rfl), if_pos rfl]
          exact ⟨_, ρ, rfl, c3, by decide⟩
        · rw [if_neg (nI_ne0 (by omega) (by omega)), if_neg hz, show nI w - 1 = nI (w - 1) from pk_sub (a := w) (b := 1) (by omega), ldI_n (by omega) (by omega), i2 (w - 1) (by omega)]
          have := mn_le (tgK s q D) (vv (w - 1)) 68921
          exact ⟨_, ρ, rfl, c3, nI_toInt (by omega)⟩
      · rw [if_pos (show (3 : Int32) < nI w from nI_lt (a := 3) (b := w) (by omega) (by omega)), jn_e, jn_e, if_neg w3, show ∀ y z : Option (Int32 × Hp), (if nI w ≤ (3 : Int32) then y else z) = z from fun y z => le_f (b := 3) (by omega) (by omega), if_neg (show ¬ (6 : Int32) < nI w from nI_nlt (a := 6) (b := w) hw (by omega)), show nI w - 1 = nI (w - 1) from pk_sub (a := w) (b := 1) (by omega), show nI (w - 1) - 3 = nI (w - 1 - 3) from pk_sub (a := w - 1) (b := 3) (by omega), ldI_n (by omega) (by omega)]
        refine ⟨_, ρ, rfl, c3, ?_⟩
        rw [i3 (w - 1 - 3) (by omega), show w - 1 - 3 = w - 4 by omega]
