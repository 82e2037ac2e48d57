/-! ===== at rest: which rooms' parts are closed (the model) ===== -/
theorem oB_nar (b : Bool) : vp_nar .boolean (oB b) = oB b := by cases b <;> rfl
theorem sI_at (σ : Hp) (k j a i : Nat) (v : Int32) : (sI σ k j v).1 a i = if a = k ∧ i = j then v else σ.1 a i := by
  rw [sI_1]
  by_cases h : a = k
  · subst h
    rw [if_pos rfl, upd_at]
    by_cases e : i = j
    · rw [if_pos e, if_pos ⟨rfl, e⟩]
    · rw [if_neg e, if_neg (fun h => e h.2)]
  · rw [if_neg h, if_neg (fun g => h g.1)]
theorem m_closed {pl : Nat → Nat → Nat} (hB : PB pl) {τ : Hp} (hM : PM τ pl) {os ov : Nat → Nat} {no S : Nat} (hno : no ≤ 6) (hov : ∀ j, j < no → ov j ≤ 9) {g : Nat} (hg : g < 3) (h130 : ∀ r, r < 5 → τ.1 130 r = nI (spO os ov S r no)) (h129 : ∀ r, r < pl 1 0 → τ.1 129 r = nI (lab pl 5 r)) (k87 : Hp → Option Hp) : ∃ τ', lp (f_X12_solves_l6 (nI g) k87) FU ((0 : Int32), τ) = k87 τ' ∧ frK [131] τ τ' ∧ ∀ r, r < pl 1 0 → τ'.1 131 r = oB (cld pl (spA pl g os ov no S) r) := by
  have hn := hB.1.1
  have hsm := spA_sum (os := os) hB (g := g) (S := S) hno hov
  generalize hsp0 : spA pl g os ov no S = sp at hsm
  have hsp : ∀ r, r < 5 → sp r ≤ 126 := fun r hr => sp_one hsm hr
  have hlab := LA_lab hB 5
  refine lp_h (Q := fun y => ∃ τ' : Hp, y = k87 τ' ∧ frK [131] τ τ' ∧ ∀ r, r < pl 1 0 → τ'.1 131 r = oB (cld pl sp r)) (pl 1 0) (fun r ζ => frK [131] τ ζ ∧ ∀ i, i < r → ζ.1 131 i = oB (cld pl sp i)) ?_ ?_ (by omega) ⟨frK_0 _ _, fun i hi => absurd hi (by omega)⟩
  · rintro r ζ hr ⟨h1, h2⟩ K
    have hM1 := PM_fr (l := [131]) (by decide) h1.1 hM
    have e20 : ζ.1 86 20 = nI (pl 1 0) := hM1.1.1
    have hc5 : cld pl sp r = clF (rc pl r) sp (pl 1 0) := clF_n (fun q hq => by
      cases e : (rc pl r).testBit q
      · rfl
      · have := (rc_in hB e).2 hr
        omega) 5 hn
    have hin : ∃ ξ, lp (f_X12_solves_l23 (nI g) (nI r, ζ) (f_X12_solves_j81 (nI r, ζ) K)) FU ((0 : Int32), sI ζ 131 r 1) = K (nI (r + 1), ξ) ∧ frK [131] τ ξ ∧ ∀ i, i < r + 1 → ξ.1 131 i = oB (cld pl sp i) := by
      refine lp_h (Q := fun y => ∃ ξ : Hp, y = K (nI (r + 1), ξ) ∧ frK [131] τ ξ ∧ ∀ i, i < r + 1 → ξ.1 131 i = oB (cld pl sp i)) (pl 1 0) (fun q ξ => frK [131] τ ξ ∧ (∀ i, i < r → ξ.1 131 i = oB (cld pl sp i)) ∧ ξ.1 131 r = oB (clF (rc pl r) sp q)) ?_ ?_ (by omega) ⟨frK_s (by decide) h1, fun i hi => ?_, ?_⟩
      · rintro q ξ hq ⟨g1, g2, g3⟩ K2
        have hM2 := PM_fr (l := [131]) (by decide) g1.1 hM
        have f20 : ξ.1 86 20 = nI (pl 1 0) := hM2.1.1
        have f129 : ∀ i, i < pl 1 0 → ξ.1 129 i = nI (lab pl 5 i) := fun i hi => by rw [g1.1 129 (by decide)]; exact h129 i hi
        have f130 : ξ.1 130 q = nI (spO os ov S q no) := by rw [g1.1 130 (by decide)]; exact h130 q (by omega)
        have hspd : f_X12_speedAt (nI q) (nI g) ξ = some (nI (sp q)) := by
          rw [← hsp0]
          exact m_speedAt hB hM2 hno hov hg (by omega) f130
        have hs := hsp q (by omega)
        have hli := lab_iff hB hr hq
        have l1 := lab_lt hB hlab hr
        have l2 := lab_lt hB hlab hq
        have hstep : clF (rc pl r) sp (q + 1) = (clF (rc pl r) sp q && !((rc pl r).testBit q && decide (0 < sp q))) := rfl
        have hF : f_X12_solves_l23 (nI g) (nI r, ζ) (f_X12_solves_j81 (nI r, ζ) K) K2 (nI q, ξ) = K2 (nI (q + 1), sI ξ 131 r (oB (clF (rc pl r) sp (q + 1)))) := by
          have hK : ∀ b : Bool, f_X12_solves_j74 (nI r, ζ) (nI q, ξ) K2 (oB b) = K2 (nI (q + 1), sI ξ 131 r (oB b)) := fun b => by
            unfold f_X12_solves_j74
            dsimp only
            rw [stZ_n (by omega) (by omega), lt_e, nI_1, oB_nar]
          unfold f_X12_solves_l23 f_X12_solves_j73 f_X12_solves_j69
          dsimp only
          rw [f20, le_f hq (by omega), ldI_n (by omega) (by omega), g3, jn_e, jn_e, oB_0, ldI_n (by omega) (by omega), f129 q hq, ldI_n (by omega) (by omega), f129 r hr, jn_e, hspd, cr_s, hstep]
          cases clF (rc pl r) sp q
          · rw [if_neg (by decide)]
            exact hK false
          · rw [if_pos rfl, Bool.true_and]
            by_cases c1 : (rc pl r).testBit q = true
            · rw [if_pos (by rw [hli.2 c1]), c1, Bool.true_and]
              by_cases c2 : 0 < sp q
              · rw [if_neg (show ¬ nI (sp q) = (0 : Int32) from fun h => absurd ((nI_eq (by omega) (by omega)).1 (show nI (sp q) = nI 0 from h)) (by omega)), decide_eq_true c2]
                exact hK false
              · rw [show sp q = 0 by omega, if_pos (show nI 0 = (0 : Int32) from rfl)]
                exact hK true
            · rw [if_neg (fun h => c1 (hli.1 ((nI_eq (by omega) (by omega)).1 h))), Bool.eq_false_iff.2 c1]
              exact hK true
        refine ⟨_, ⟨frK_s (by decide) g1, fun i hi => ?_, ?_⟩, hF⟩
        · rw [sI_at, if_neg (fun h => absurd h.2 (by omega))]; exact g2 i hi
        · rw [sI_at, if_pos ⟨rfl, rfl⟩]
      · rintro ξ ⟨g1, g2, g3⟩ K2
        have hM2 := PM_fr (l := [131]) (by decide) g1.1 hM
        have f20 : ξ.1 86 20 = nI (pl 1 0) := hM2.1.1
        refine ⟨ξ, ?_, g1, fun i hi => ?_⟩
        · unfold f_X12_solves_l23 f_X12_solves_j81
          dsimp only
          rw [f20, le_t (Nat.le_refl _) (by omega), lt_e, nI_1]
        · by_cases e : i = r
          · rw [e, hc5]; exact g3
          · exact g2 i (by omega)
      · rw [sI_at, if_neg (fun h => absurd h.2 (by omega))]; exact h2 i hi
      · rw [sI_at, if_pos ⟨rfl, rfl⟩]; rfl
    obtain ⟨ξ, z1, z2, z3⟩ := hin
    refine ⟨ξ, ⟨z2, z3⟩, ?_⟩
    unfold f_X12_solves_l6
    dsimp only
    rw [e20, le_f hr (by omega), stZ_n (by omega) (by omega), jn_e]
    exact z1
  · rintro ζ ⟨h1, h2⟩ K
    have hM1 := PM_fr (l := [131]) (by decide) h1.1 hM
    have e20 : ζ.1 86 20 = nI (pl 1 0) := hM1.1.1
    refine ⟨ζ, ?_, h1, h2⟩
    unfold f_X12_solves_l6
    dsimp only
    rw [e20, le_t (Nat.le_refl _) (by omega)]
