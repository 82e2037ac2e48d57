/-! ===== at rest: the call ===== -/
theorem m_solves {pl : Nat → Nat → Nat} (hB : PB pl) {τ : Hp} (hM : PM τ pl) {os ov : Nat → Nat} {no S : Nat} (hno : no ≤ 6) (hov : ∀ j, j < no → ov j ≤ 9) {g : Nat} (hg : g < 3) (h130 : ∀ r, r < 5 → τ.1 130 r = nI (spO os ov S r no)) : ∃ τ' : Hp, ∃ W : Nat → Nat → Int, f_X12_solves (nI g) τ = some τ' ∧ fr [129, 131] τ τ' ∧ (∀ r, r < pl 1 0 → τ'.1 129 r = nI (lab pl 5 r)) ∧ (∀ r, r < pl 1 0 → τ'.1 131 r = oB (cld pl (spA pl g os ov no S) r)) ∧ (∀ i, i < pl 1 0 → ∀ j, j < 6 → τ'.2 128 (6 * i + j) = zJ (W i j)) ∧ ∀ i, i < pl 1 0 → RI (vM pl (spA pl g os ov no S) (fun r => pl 6 (3 * r + g))) (pl 1 0) (pl 1 0) i (W i) := by
  have hn := hB.1.1
  have hsm := spA_sum (os := os) hB (g := g) (S := S) hno hov
  obtain ⟨τ1, a1, a2, a3⟩ := m_parts hB hM
  have hM1 := PM_fr (l := [129]) (by decide) a2.1 hM
  have h130' : ∀ r, r < 5 → τ1.1 130 r = nI (spO os ov S r no) := fun r hr => by rw [a2.1 130 (by decide)]; exact h130 r hr
  obtain ⟨τ2, b1, b2, b3⟩ := m_closed hB hM1 hno hov hg h130' a3 (f_X12_solves_j87 (nI g))
  have hM2 := PM_fr (l := [131]) (by decide) b2.1 hM1
  have h130'' : ∀ r, r < 5 → τ2.1 130 r = nI (spO os ov S r no) := fun r hr => by rw [b2.1 130 (by decide)]; exact h130' r hr
  obtain ⟨τ3, c1, c2, c3⟩ := m_fill hB hM2 hno hov hg h130'' b3
  have hM3 := PM_1 c2.1 hM2
  obtain ⟨τ4, d1, d2, W, d3, d4⟩ := m_elim (v := vM pl (spA pl g os ov no S) (fun r => pl 6 (3 * r + g))) (MM_v hB) (tr_v hB hsm) (L_v (fun r => hB.2.2.2.2.2.1 _)).2 hn hM3.1.1 (fun r hr j hj hj5 => by
    rw [vM_lt hj5]
    exact mtx_out hB (by omega) hj _ (Nat.le_refl _)) c3
  refine ⟨τ4, W, ?_, fun a ha => ?_, fun r hr => ?_, fun r hr => ?_, d3, d4⟩
  · unfold f_X12_solves
    rw [a1, cr_s, jn_e, b1, c1, d1]
  · rw [d2.1, c2.1, b2.1 a (fun h => ha (by revert h; simp only [List.mem_cons]; intro h; rcases h with h | h; exact Or.inr (Or.inl h); cases h)), a2.1 a (fun h => ha (by revert h; simp only [List.mem_cons]; intro h; rcases h with h | h; exact Or.inl h; cases h))]
  · rw [d2.1, c2.1, b2.1 129 (by decide)]; exact a3 r hr
  · rw [d2.1, c2.1]; exact b3 r hr
theorem c_fraction {pl : Nat → Nat → Nat} (hB : PB pl) {σ : Hp} (hC : PC σ pl) {no : Nat} {os ov oc : Nat → Nat} (hO : OC σ (pl 1 0) no os ov oc) {g r : Nat} (hg : g < 3) (hr : r < 5) (a3 : Int32) : ∃ σ', fr [55, 56] σ σ' ∧ (cld pl (spA pl g os ov no 0) r = true → f_X7_fraction (nI r) (nI g) a3 σ = some ((-9 : Int64), σ')) ∧ (cld pl (spA pl g os ov no 0) r = false → ∀ p q : Int, 0 < Nat.gcd (PT (vR (vM pl (spA pl g os ov no 0) (fun r => pl 6 (3 * r + g))) r) 31).natAbs (PT (vM pl (spA pl g os ov no 0) (fun r => pl 6 (3 * r + g))) 31).natAbs → PT (vR (vM pl (spA pl g os ov no 0) (fun r => pl 6 (3 * r + g))) r) 31 = (Nat.gcd (PT (vR (vM pl (spA pl g os ov no 0) (fun r => pl 6 (3 * r + g))) r) 31).natAbs (PT (vM pl (spA pl g os ov no 0) (fun r => pl 6 (3 * r + g))) 31).natAbs : Int) * p → PT (vM pl (spA pl g os ov no 0) (fun r => pl 6 (3 * r + g))) 31 = (Nat.gcd (PT (vR (vM pl (spA pl g os ov no 0) (fun r => pl 6 (3 * r + g))) r) 31).natAbs (PT (vM pl (spA pl g os ov no 0) (fun r => pl 6 (3 * r + g))) 31).natAbs : Int) * q → f_X7_fraction (nI r) (nI g) a3 σ = some (if a3 = 0 then zJ p else zJ q, σ')) := by
  have hn := hB.1.1
  have hov : ∀ j, j < no → ov j ≤ 9 := fun j hj => (hO.2 j hj).2.1.2.2
  have hsm := spA_sum (os := os) hB (g := g) (S := 0) hO.1.2 hov
  have hsp : ∀ r, r < 5 → spA pl g os ov no 0 r ≤ 126 := fun r hr => sp_one hsm hr
  obtain ⟨σ1, a1, a2, a3'⟩ := c_reached hB hC
  have hC1 := PC_fr (l := [56]) (by decide) a2 hC
  have hO1 := OC_fr (l := [56]) (by decide) a2 hO
  obtain ⟨σ2, b1, b2, b3⟩ := c_speeds hB hC1 hO1 hg (S := 0) (by omega)
  have hC2 := PC_fr (l := [55]) (by decide) b2 hC1
  have h56 : ∀ r, r < 5 → σ2.1 56 r = nI (rc pl r) := fun r hr => by rw [b2 56 (by decide)]; exact a3' r hr
  have hcl := c_closed hB h56 b3 hsp hr
  have hfr : fr [55, 56] σ σ2 := fr_t (fr_m (by decide) a2) (fr_m (by decide) b2)
  have htr := tr_v (lk := fun r => pl 6 (3 * r + g)) hB hsm
  have hMM := MM_v (sp := spA pl g os ov no 0) (lk := fun r => pl 6 (3 * r + g)) hB
  have hl5 : ∀ i, i < 5 → vM pl (spA pl g os ov no 0) (fun r => pl 6 (3 * r + g)) i 5 ≤ 999 := fun i _ => by
    have := hB.2.2.2.2.2.1 (3 * i + g)
    rw [vM_5]
    split <;> omega
  cases hcld : cld pl (spA pl g os ov no 0) r
  · obtain ⟨σ4, c1, c2, c3, c4⟩ := c_fill hB hC2 hg h56 b3 hsp
    generalize hv : vM pl (spA pl g os ov no 0) (fun r => pl 6 (3 * r + g)) = v at *
    have c3' : ∀ i, i < 5 → ∀ j, j < 5 → σ4.2 57 (5 * i + j) = zJ (v i j) := fun i hi j hj => by
      rw [c3 i hi j hj, ← hv, vM_lt hj]
    obtain ⟨σ6, d1, d2⟩ := c_det (σ := σ4) (V := vR v r) (a1 := nI r) (fun i hi c hc => by
      unfold vR
      by_cases e : c = r
      · rw [if_pos (by rw [e]), if_pos e]; exact c4 i hi
      · rw [if_neg (fun h => e ((nI_eq (by omega) (by omega)).1 h)), if_neg e]; exact c3' i hi c hc)
    obtain ⟨σ8, e1, e2⟩ := c_det (σ := σ6) (V := v) (a1 := -1) (fun i hi c hc => by
      rw [if_neg (fun h => by
        have := congrArg Int32.toInt h
        rw [nI_toInt (by omega)] at this
        have h2 : (-1 : Int32).toInt = -1 := rfl
        rw [h2] at this
        omega), d2.2 57 (by decide)]
      exact c3' i hi c hc)
    refine ⟨σ8, fun a ha => ?_, fun h => (by cases h), fun _ p q hG hp hq => ?_⟩
    · rw [e2.1, d2.1, c2.1]; exact hfr a ha
    · have hNb := N_bd (r := r) hMM htr hl5
      have hPT := PT_pos hMM 31 31 (Nat.le_refl _) (by omega)
      have hPb := prT_31 (d := fun i => v i i) (diag_1 hMM) htr
      generalize hN : PT (vR v r) 31 = N at *
      generalize hD : PT v 31 = D at *
      have tN : (zJ N).toInt = N := zJ_t (by omega) (by omega)
      have tD : (zJ D).toInt = D := zJ_t (by omega) (by omega)
      have hgc := c_gcd (a := zJ N) (b := zJ D) (by rw [tN]; omega) (by rw [tD]; omega)
      rw [tN, tD] at hgc
      have hGD : Nat.gcd N.natAbs D.natAbs ≤ D.natAbs := Nat.gcd_le_right _ (by omega)
      generalize hGG : Nat.gcd N.natAbs D.natAbs = G at *
      have q1 : zJ N / lN G = zJ p := by
        have := zJ_quo (s := (G : Int)) (p := p) (by omega) (by rw [← hp]; omega) (by omega)
        rw [← hp, zJ_n] at this
        exact this
      have q2 : zJ D / lN G = zJ q := by
        have := zJ_quo (s := (G : Int)) (p := q) (by omega) (by rw [← hq]; omega) (by omega)
        rw [← hq, zJ_n] at this
        exact this
      unfold f_X7_fraction
      rw [a1, cr_s, show (0 : Int32) = nI 0 from rfl, b1, cr_s, hcl, cr_s, hcld, if_pos (show oB false = nI 0 from rfl), c1, cr_s, d1, cl_s, e1, cl_s, hgc, cr_s, if_neg (fun h => by
        have := (lg_eq0 _).1 h
        rw [← zJ_n, ← zJ_n] at this
        have h2 := congrArg Int64.toInt this
        rw [zJ_t (by omega) (by omega), zJ_t (by omega) (by omega)] at h2
        omega), jn_e]
      unfold f_X7_fraction_j72
      rw [q1, q2, dvJ_n hG (by omega), dvJ_n hG (by omega)]
      by_cases e : a3 = nI 0
      · rw [if_pos e, if_pos e]
      · rw [if_neg e, if_neg e]
  · refine ⟨σ2, hfr, fun _ => ?_, fun h => (by cases h)⟩
    unfold f_X7_fraction
    rw [a1, cr_s, show (0 : Int32) = nI 0 from rfl, b1, cr_s, hcl, cr_s, hcld, if_neg (show ¬ oB true = nI 0 by decide)]
