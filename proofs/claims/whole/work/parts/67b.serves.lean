/-! ===== a plan: whether a set of offers serves (the class) ===== -/
def spS (pl : Nat → Nat → Nat) (os ov : Nat → Nat) (no S : Nat) : Nat → Nat := spA pl 0 os ov no S
def vS (pl : Nat → Nat → Nat) (os ov : Nat → Nat) (no S : Nat) : Nat → Nat → Int := vM pl (spA pl 0 os ov no S) (fun r => pl 6 (3 * r + 0))
def svP (pl : Nat → Nat → Nat) (os ov : Nat → Nat) (no m S : Nat) : Prop := ∀ r, r < pl 1 0 → (lkN pl (pl 1 0)).testBit r = true → cld pl (spS pl os ov no S) r = false ∧ PT (vR (vS pl os ov no S) r) 31 ≤ (m : Int) * PT (vS pl os ov no S) 31
theorem c_serves {pl : Nat → Nat → Nat} (hB : PB pl) {σ : Hp} (hC : PC σ pl) {no : Nat} {os ov oc : Nat → Nat} (hO : OC σ (pl 1 0) no os ov oc) (h56 : ∀ r, r < 5 → σ.1 56 r = nI (rc pl r)) {S m : Nat} (hS : S < 64) (hm : m ≤ 9999) : ∃ (b : Bool) (σ' : Hp), f_X7_serves (nI S) (nI (lkN pl (pl 1 0))) (nI m) σ = some (oB b, σ') ∧ fr [55] σ σ' ∧ (b = true ↔ svP pl os ov no m S) := by
  have hn := hB.1.1
  have hL := lkN_lt hB (pl 1 0) hn
  have hov : ∀ j, j < no → ov j ≤ 9 := fun j hj => (hO.2 j hj).2.1.2.2
  have hsm := spA_sum (os := os) hB (g := 0) (S := S) hO.1.2 hov
  have hsp : ∀ r, r < 5 → spA pl 0 os ov no S r ≤ 126 := fun r hr => sp_one hsm hr
  obtain ⟨σ1, b1, b2, b3⟩ := c_speeds hB hC hO (g := 0) (by omega) hS
  have hC1 := PC_fr (l := [55]) (by decide) b2 hC
  have k56 : ∀ r, r < 5 → σ1.1 56 r = nI (rc pl r) := fun r hr => by rw [b2 56 (by decide)]; exact h56 r hr
  have e1 : σ1.1 1 0 = nI (pl 1 0) := hC1.1.1
  have hcl : ∀ r, r < 5 → f_X7_isClosed (nI r) σ1 = some (oB (cld pl (spS pl os ov no S) r)) := fun r hr => c_closed hB k56 b3 hsp hr
  have htr := tr_v (lk := fun r => pl 6 (3 * r + 0)) hB hsm
  have hMM := MM_v (sp := spA pl 0 os ov no S) (lk := fun r => pl 6 (3 * r + 0)) hB
  have hl5 : ∀ i, i < 5 → vM pl (spA pl 0 os ov no S) (fun r => pl 6 (3 * r + 0)) i 5 ≤ 999 := fun i _ => by
    have := hB.2.2.2.2.2.1 (3 * i + 0)
    rw [vM_5]
    split <;> omega
  unfold f_X7_serves
  rw [show (0 : Int32) = nI 0 from rfl, b1, cr_s, jn_e]
  refine lp_e (Q := fun y => ∃ (b : Bool) (σ' : Hp), y = some (oB b, σ') ∧ fr [55] σ σ' ∧ (b = true ↔ svP pl os ov no m S)) (pl 1 0) (fun i s => s = nI i ∧ ∀ r, r < i → (lkN pl (pl 1 0)).testBit r = true → cld pl (spS pl os ov no S) r = false) ?_ ?_ 0 (by omega) (by omega) ⟨rfl, fun r hr => absurd hr (by omega)⟩
  · rintro i s hi ⟨rfl, h1⟩ K
    have hF : f_X7_serves_l9 (nI (lkN pl (pl 1 0))) σ1 (f_X7_serves_j48 (nI (lkN pl (pl 1 0))) (nI m) σ1) K (nI i) = if (lkN pl (pl 1 0)).testBit i = true then (if cld pl (spS pl os ov no S) i = true then some (oB false, σ1) else K (nI (i + 1))) else K (nI (i + 1)) := by
      unfold f_X7_serves_l9 f_X7_serves_j42
      rw [e1, le_f hi (by omega), jn_e, bit1 (by omega) (by omega), hcl i (by omega), cr_s, oB_0, lt_e, nI_1, ckZ_0]
      rfl
    rw [hF]
    by_cases c1 : (lkN pl (pl 1 0)).testBit i = true
    · rw [if_pos c1]
      by_cases c2 : cld pl (spS pl os ov no S) i = true
      · rw [if_pos c2]
        refine Or.inl ⟨false, σ1, rfl, b2, fun h => (by cases h), fun h => ?_⟩
        have := (h i hi c1).1
        rw [c2] at this
        cases this
      · rw [if_neg c2]
        refine Or.inr ⟨nI (i + 1), ⟨rfl, fun r hr hb => ?_⟩, rfl⟩
        by_cases e : r = i
        · rw [e]; exact Bool.eq_false_iff.2 c2
        · exact h1 r (by omega) hb
    · rw [if_neg c1]
      refine Or.inr ⟨nI (i + 1), ⟨rfl, fun r hr hb => ?_⟩, rfl⟩
      by_cases e : r = i
      · rw [e] at hb; exact absurd hb c1
      · exact h1 r (by omega) hb
  · rintro s ⟨rfl, h1⟩ K
    obtain ⟨σ4, c1, c2, c3, c4⟩ := c_fill hB hC1 (g := 0) (by omega) k56 b3 hsp
    have hSv : vM pl (spA pl 0 os ov no S) (fun r => pl 6 (3 * r + 0)) = vS pl os ov no S := rfl
    rw [hSv] at htr hMM hl5
    have c4' : ∀ i, i < 5 → σ4.2 58 i = zJ (vS pl os ov no S i 5) := c4
    have c3' : ∀ i, i < 5 → ∀ j, j < 5 → σ4.2 57 (5 * i + j) = zJ (vS pl os ov no S i j) := fun i hi j hj => by
      rw [c3 i hi j hj, ← hSv, vM_lt hj]
    obtain ⟨σ6, d1, d2⟩ := c_det (σ := σ4) (V := vS pl os ov no S) (a1 := -1) (fun i hi c hc => by
      rw [if_neg (fun h => by
        have := congrArg Int32.toInt h
        rw [nI_toInt (by omega)] at this
        have h2 : (-1 : Int32).toInt = -1 := rfl
        rw [h2] at this
        omega)]
      exact c3' i hi c hc)
    have hPT := PT_pos hMM 31 31 (Nat.le_refl _) (by omega)
    have hPb := prT_31 (d := fun i => vS pl os ov no S i i) (diag_1 hMM) htr
    have hDm : (m : Int) * PT (vS pl os ov no S) 31 ≤ 9999 * 1700000000 := im_le (by omega) (by omega) (by omega) (by omega)
    have hDm0 : 0 ≤ (m : Int) * PT (vS pl os ov no S) 31 := Int.mul_nonneg (by omega) (by omega)
    unfold f_X7_serves_l9
    rw [e1, le_t (Nat.le_refl _) (by omega)]
    unfold f_X7_serves_j48
    rw [show (0 : Int32) = nI 0 from rfl, c1, cr_s, d1, cl_s, lt_e, zJ_i (by omega), zJ_mul]
    refine lp_e (Q := fun y => ∃ (b : Bool) (σ' : Hp), y = some (oB b, σ') ∧ fr [55] σ σ' ∧ (b = true ↔ svP pl os ov no m S)) (pl 1 0) (fun i s => s.1 = nI i ∧ frJ [59] σ4 s.2 ∧ ∀ r, r < i → (lkN pl (pl 1 0)).testBit r = true → PT (vR (vS pl os ov no S) r) 31 ≤ (m : Int) * PT (vS pl os ov no S) 31) ?_ ?_ 0 (by omega) (by omega) ⟨rfl, d2, fun r hr => absurd hr (by omega)⟩
    · rintro i ⟨s, ξ⟩ hi ⟨g1, g2, g3⟩ K2
      obtain rfl : s = nI i := g1
      have f1 : ξ.1 1 0 = nI (pl 1 0) := by rw [g2.1, c2.1]; exact e1
      have hfr : ∀ ζ : Hp, ζ.1 = ξ.1 → fr [55] σ ζ := fun ζ hζ a ha => by rw [hζ, g2.1, c2.1]; exact b2 a ha
      obtain ⟨ζ, z1, z2⟩ := c_det (σ := ξ) (V := vR (vS pl os ov no S) i) (a1 := nI i) (fun k hk c hc => by
        unfold vR
        rw [g2.2 58 (by decide), g2.2 57 (by decide)]
        by_cases e : c = i
        · rw [if_pos (by rw [e]), if_pos e]; exact c4' k hk
        · rw [if_neg (fun h => e ((nI_eq (by omega) (by omega)).1 h)), if_neg e]; exact c3' k hk c hc)
      have hNb := N_bd (r := i) hMM htr hl5
      have hle : (lg_cmp (zJ (PT (vR (vS pl os ov no S) i) 31)) (zJ ((m : Int) * PT (vS pl os ov no S) 31)) ≤ 0) ↔ PT (vR (vS pl os ov no S) i) 31 ≤ (m : Int) * PT (vS pl os ov no S) 31 := by
        rw [lg_cmp_le, i64_le, zJ_t (by omega) (by omega), zJ_t (by omega) (by omega)]
      have hF : f_X7_serves_l66 (nI (lkN pl (pl 1 0))) (zJ ((m : Int) * PT (vS pl os ov no S) 31)) K2 (nI i, ξ) = if (lkN pl (pl 1 0)).testBit i = true then (if lg_cmp (zJ (PT (vR (vS pl os ov no S) i) 31)) (zJ ((m : Int) * PT (vS pl os ov no S) 31)) ≤ 0 then K2 (nI (i + 1), ζ) else some (oB false, ζ)) else K2 (nI (i + 1), ξ) := by
        unfold f_X7_serves_l66 f_X7_serves_j102
        dsimp only
        rw [f1, le_f hi (by omega), jn_e, bit1 (by omega) (by omega), z1, cl_s, ckZ_0]
        dsimp only
        rw [lt_e, lt_e, nI_1]
        rfl
      rw [hF]
      by_cases q1 : (lkN pl (pl 1 0)).testBit i = true
      · rw [if_pos q1]
        by_cases q2 : PT (vR (vS pl os ov no S) i) 31 ≤ (m : Int) * PT (vS pl os ov no S) 31
        · rw [if_pos (hle.2 q2)]
          refine Or.inr ⟨(nI (i + 1), ζ), ⟨rfl, frJ_t g2 z2, fun r hr hb => ?_⟩, rfl⟩
          by_cases e : r = i
          · rw [e]; exact q2
          · exact g3 r (by omega) hb
        · rw [if_neg (fun h => q2 (hle.1 h))]
          exact Or.inl ⟨false, ζ, rfl, hfr ζ z2.1, fun h => (by cases h), fun h => absurd (h i hi q1).2 q2⟩
      · rw [if_neg q1]
        refine Or.inr ⟨(nI (i + 1), ξ), ⟨rfl, g2, fun r hr hb => ?_⟩, rfl⟩
        by_cases e : r = i
        · rw [e] at hb; exact absurd hb q1
        · exact g3 r (by omega) hb
    · rintro ⟨s, ξ⟩ ⟨g1, g2, g3⟩ K2
      obtain rfl : s = nI (pl 1 0) := g1
      have f1 : ξ.1 1 0 = nI (pl 1 0) := by rw [g2.1, c2.1]; exact e1
      refine ⟨true, ξ, ?_, fun a ha => by rw [g2.1, c2.1]; exact b2 a ha, fun _ r hr hb => ⟨h1 r hr hb, g3 r hr hb⟩, fun _ => rfl⟩
      unfold f_X7_serves_l66
      dsimp only
      rw [f1, le_t (Nat.le_refl _) (by omega), ckZ_1]
      rfl
