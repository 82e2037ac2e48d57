/-! ===== cold ===== -/
/-- rows of both for a stage -/
theorem sp_e {n : Nat} {σ τ : Hp} (h : RR n σ τ) {s q at_ : Nat} (hs : s < 4) (hq : q ≤ 300) (ha : at_ ≤ 301) : f_X12_left (nI s) (nI at_) (nI q) τ = f_X1_spare (nI s) (nI q) (nI at_) σ ∧ ∃ v, f_X1_spare (nI s) (nI q) (nI at_) σ = some v := by
  obtain ⟨⟨c1, c2, c3, c4⟩, -⟩ := h.2.2.2.2.2.2.2.1
  unfold f_X12_left f_X12_left_j34 f_X1_spare
  simp (disch := omega) only [ldI_n, jn_e, ← c1, ← c2, ← c3]
  refine ⟨?_, _, rfl⟩
  by_cases h1 : q ≤ at_
  · have h2 : ¬ ((0 : Int32) < nI q - nI at_) := by
      rw [i32_lt, pk_sub_toInt (by omega) (by omega), l_0]
      omega
    simp (disch := omega) only [le_t, if_neg h2, Int32.mul_zero]
  · have h2 : (0 : Int32) < nI q - nI at_ := by
      rw [i32_lt, pk_sub_toInt (by omega) (by omega), l_0]
      omega
    simp (disch := omega) only [le_f, if_pos h2, ldI_n]
theorem du_e {n : Nat} {σ τ : Hp} (h : RR n σ τ) {s q : Nat} (hs : s < 4) (hq : q ≤ 300) (t1 : Int32 × Int32) (ht : t1 = (nI q, nI s)) (k50 : Int32 → Option Int32) : ∀ e d m m', d + e = 301 → e < m → e < m' → (∃ y, y ≤ 300 ∧ lp (f_X1_degreeUnder_l7 (nI s) (nI q) σ) m (nI d) = some (nI y) ∧ lp (f_X12_rests_l19 τ t1 k50) m' (nI d) = k50 (nI y)) ∨ (lp (f_X1_degreeUnder_l7 (nI s) (nI q) σ) m (nI d) = some (-9) ∧ lp (f_X12_rests_l19 τ t1 k50) m' (nI d) = k50 (nI 301))
  | e, d, 0, m', _, h1, _ => absurd h1 (by omega)
  | e, d, m, 0, _, _, h1 => absurd h1 (by omega)
  | 0, d, m + 1, m' + 1, hd, h1, h2 => by
    right
    have : d = 301 := by omega
    subst this
    rw [lp_succ, lp_succ]
    constructor
    · unfold f_X1_degreeUnder_l7
      rw [if_pos (show (300 : Int32) < nI 301 from nI_lt (a := 300) (b := 301) (by omega) (by omega))]
    · unfold f_X12_rests_l19
      rw [if_pos (show (300 : Int32) < nI 301 from nI_lt (a := 300) (b := 301) (by omega) (by omega))]
  | e + 1, d, m + 1, m' + 1, hd, h1, h2 => by
    obtain ⟨e1, v, e2⟩ := sp_e h hs hq (show d ≤ 301 by omega)
    rw [e2] at e1
    obtain ⟨⟨c1, c2, c3, c4⟩, -⟩ := h.2.2.2.2.2.2.2.1
    have n3 : ¬ ((300 : Int32) < nI d) := nI_nlt (a := 300) (b := d) (by omega) (by omega)
    have ih := du_e h hs hq t1 ht k50 e (d + 1) m m' (by omega) (by omega) (by omega)
    rw [lp_succ, lp_succ]
    generalize lp (f_X1_degreeUnder_l7 (nI s) (nI q) σ) m = K at ih ⊢
    generalize lp (f_X12_rests_l19 τ t1 k50) m' = K' at ih ⊢
    have x1 : f_X1_degreeUnder_l7 (nI s) (nI q) σ K (nI d) = if v < σ.1 76 s then K (nI (d + 1)) else some (nI d) := by
      simp (disch := omega) only [f_X1_degreeUnder_l7, if_neg n3, e2, cr_s, ldI_n, lt_e, nI_1]
    have x2 : f_X12_rests_l19 τ t1 k50 K' (nI d) = if v < σ.1 76 s then K' (nI (d + 1)) else k50 (nI d) := by
      subst ht
      simp (disch := omega) only [f_X12_rests_l19, if_neg n3, e1, cr_s, ldI_n, lt_e, nI_1, ← c4]
      by_cases h5 : v < σ.1 76 s
      · rw [if_pos h5, if_neg (Int32.not_le.2 h5)]
      · rw [if_neg h5, if_pos (Int32.not_lt.1 h5)]
    rw [x1, x2]
    by_cases h5 : v < σ.1 76 s
    · simp only [if_pos h5]
      exact ih
    · simp only [if_neg h5]
      exact Or.inl ⟨d, by omega, rfl, rfl⟩
theorem dg_e {n : Nat} {σ τ : Hp} (h : RR n σ τ) {k : Nat} (hk : k < 4) : ∀ e s q m m', s + e = k + 1 → q ≤ 300 → e + 1 < m → e < m' → ∃ r, (r = -9 ∨ ∃ y, y ≤ 300 ∧ r = nI y) ∧ lp (f_X1_degree_l6 (nI k) σ) m (nI q, nI s) = some r ∧ lp (f_X12_rests_l6 (nI k) τ) m' (nI q, nI s) = some r
  | e, s, q, 0, m', _, _, h1, _ => absurd h1 (by omega)
  | e, s, q, m, 0, _, _, _, h1 => absurd h1 (by omega)
  | 0, s, q, m + 1, m' + 1, hs, hq, h1, h2 => by
    have l : nI k < nI s := nI_lt (by omega) (by omega)
    refine ⟨nI q, Or.inr ⟨q, hq, rfl⟩, ?_, ?_⟩
    · rw [lp_succ]; unfold f_X1_degree_l6; rw [if_pos l]
    · rw [lp_succ]; unfold f_X12_rests_l6; rw [if_pos l]
  | e + 1, s, q, m + 1, m' + 1, hs, hq, h1, h2 => by
    have l : ¬ nI k < nI s := nI_nlt (by omega) (by omega)
    have l9 : ¬ (nI q = (-9 : Int32)) := fun e9 => by
      have := congrArg Int32.toInt e9
      rw [nI_toInt (by omega), l_m9] at this
      omega
    obtain ⟨⟨c1, c2, c3, c4⟩, b1, -⟩ := h.2.2.2.2.2.2.2.1
    have hf := b1 s
    have ef := n_of hf.1
    have hf2 : (σ.1 73 s).toInt.toNat ≤ 299 := by have := hf.2; omega
    generalize (σ.1 73 s).toInt.toNat = f at ef hf2
    rw [lp_succ, lp_succ]
    generalize hK : lp (f_X1_degree_l6 (nI k) σ) m = K
    generalize hK' : lp (f_X12_rests_l6 (nI k) τ) m' = K'
    have x1 : f_X1_degree_l6 (nI k) σ K (nI q, nI s) = cr (lp (f_X1_degreeUnder_l7 (nI s) (nI q) σ) FU (nI f)) fun v2 => K (v2, nI (s + 1)) := by
      simp (disch := omega) only [f_X1_degree_l6, if_neg l, if_neg l9, f_X1_degreeUnder, ldI_n, ef, lt_e, nI_1]
    have x2 : f_X12_rests_l6 (nI k) τ K' (nI q, nI s) = lp (f_X12_rests_l19 τ (nI q, nI s) (f_X12_rests_j50 (nI q, nI s) K')) FU (nI f) := by
      simp (disch := omega) only [f_X12_rests_l6, if_neg l, ldI_n, ← c1, ef, jn_e]
    rw [x1, x2]
    rcases du_e h (show s < 4 by omega) hq (nI q, nI s) rfl (f_X12_rests_j50 (nI q, nI s) K') (301 - f) f FU FU (by omega) (by rw [FU_e]; omega) (by rw [FU_e]; omega) with ⟨y, hy, y1, y2⟩ | ⟨y1, y2⟩
    · rw [y1, y2, cr_s]
      obtain ⟨r, r1, r2, r3⟩ := dg_e h hk e (s + 1) y m m' (by omega) hy (by omega) (by omega)
      refine ⟨r, r1, by rw [← hK]; exact r2, ?_⟩
      unfold f_X12_rests_j50
      rw [if_pos (show nI y ≤ (300 : Int32) from nI_le (a := y) (b := 300) (by omega) (by omega)), lt_e]
      show K' (nI y, nI s + 1) = _
      rw [nI_1, ← hK']
      exact r3
    · rw [y1, y2, cr_s]
      refine ⟨-9, Or.inl rfl, ?_, ?_⟩
      · rw [← hK]
        obtain ⟨m, rfl⟩ : ∃ m', m = m' + 1 := ⟨m - 1, by omega⟩
        rw [lp_succ]
        unfold f_X1_degree_l6
        simp only [if_true, ite_self]
      · unfold f_X12_rests_j50
        rw [if_neg (show ¬ nI 301 ≤ (300 : Int32) from nI_ge (a := 300) (b := 301) (by omega) (by omega))]
theorem dgs {n : Nat} {σ τ : Hp} (h : RR n σ τ) {k : Nat} (hk : k < 4) : ∃ r, (r = -9 ∨ ∃ y, y ≤ 300 ∧ r = nI y) ∧ f_X1_degree (nI k) σ = some r ∧ f_X12_rests (nI k) τ = some r :=
  dg_e h hk (k + 1) 0 300 FU FU (by omega) (by omega) (by rw [FU_e]; omega) (by rw [FU_e]; omega)
theorem st_restCold (n : Nat) (a : Int32) {σ τ : Hp} (h : RR n σ τ) : Ok32 n (f_X11_restCold a σ) (f_X12_restCold a τ) := by
  simp only [f_X11_restCold, f_X11_restCold_j24, f_X12_restCold, f_X12_restCold_j25, jn_e, lt_e, k_within, k_isIn, k_isGas, k_isRoom, k_isPipe, k_isPump, k_out, cl_s, cr_s, rf_1, rf_2, rf_4, rf_6, rf_0, e_no1, e_no2, e_no3, e_no4, e_no6, e_no7, e_refuse1, e_refuse2, e_refuse3, e_refuse4, e_refuse6, e_refuse7, n1z, n2z, n3z, n4z, n6z, z0z, z1z, i32_lt, i32_le, Int.reduceAdd, Int.reduceSub, if_true, if_false, l_0, l_4, d_0, d_3, ile]
  by_cases h1 : 0 ≤ a.toInt ∧ a.toInt < 4
  · simp only [if_pos h1]
    have ea := n_of h1.1
    generalize hk0 : a.toInt.toNat = k at ea
    subst ea
    have hk : k < 4 := by omega
    obtain ⟨r, -, r2, r3⟩ := dgs h hk
    rw [r2, r3, cr_s, cr_s]
    exact ⟨_, _, _, rfl, rfl, RR_same h⟩
  · simp only [if_neg h1]; exact ok_ref h
theorem st_load (n : Nat) (a b : Int32) {σ τ : Hp} (h : RR n σ τ) : Ok32 n (f_X11_load a b σ) (f_X12_load a b τ) := by
  simp only [f_X11_load, f_X11_load_j57, f_X11_load_j36, f_X11_load_j24, f_X11_load_j14, f_X12_load, jn_e, lt_e, k_within, k_isIn, k_isGas, k_isRoom, k_isPipe, k_isPump, k_out, cl_s, cr_s, rf_1, rf_2, rf_4, rf_6, rf_0, e_no1, e_no2, e_no3, e_no4, e_no6, e_no7, e_refuse1, e_refuse2, e_refuse3, e_refuse4, e_refuse6, e_refuse7, n1z, n2z, n3z, n4z, n6z, z0z, z1z, i32_lt, i32_le, Int.reduceAdd, Int.reduceSub, if_true, if_false, l_0, l_4, l_300, d_0, d_3, d_300, ile]
  by_cases h1 : 0 ≤ a.toInt ∧ a.toInt < 4
  · simp only [if_pos h1]
    by_cases h2 : b.toInt < 0
    · simp only [if_pos h2, ite_self]; exact ok_ref h
    by_cases h3 : 300 < b.toInt
    · simp only [if_neg h2, if_pos h3]; exact ok_ref h
    simp only [if_neg h2, if_neg h3]
    have ea := n_of h1.1
    have eb := n_of (a := b) (by omega)
    generalize hk0 : a.toInt.toNat = k at ea
    generalize hk1 : b.toInt.toNat = mk at eb
    subst ea eb
    have hk : k < 4 := by omega
    have hmk : mk ≤ 300 := by omega
    have hr := RR_same h
    obtain ⟨⟨c1, c2, c3, c4⟩, b1, -⟩ := h.2.2.2.2.2.2.2.1
    -- behind the degree ahead
    have key : ∀ r : Int32, (r = -9 ∨ ∃ y, y ≤ 300 ∧ r = nI y) → ∃ v, f_X1_bearable_j17 (nI k) (nI mk) σ r = some v ∧ f_X12_load_j55 (nI k) (nI mk) τ r = some (v, τ) := by
      rintro r (rfl | ⟨y, hy, rfl⟩)
      · refine ⟨-9, ?_, ?_⟩
        · unfold f_X1_bearable_j17; rw [if_pos rfl]
        · unfold f_X12_load_j55; rw [if_pos (by decide)]
      · have l9 : ¬ (nI y = (-9 : Int32)) := fun e9 => by
          have := congrArg Int32.toInt e9
          rw [nI_toInt (by omega), l_m9] at this
          omega
        have l0 : ¬ (nI y < 0) := nI_pos (by omega)
        unfold f_X1_bearable_j17 f_X12_load_j55 f_X1_bearable_j64 f_X12_load_j111
        simp (disch := omega) only [if_neg l9, if_neg l0, ldI_n, ← c1, jn_e]
        by_cases h5 : σ.1 73 k ≤ nI mk
        · obtain ⟨e1, v, e2⟩ := sp_e h hk hy (show mk ≤ 301 by omega)
          rw [e2] at e1
          simp only [if_pos h5, e1, e2, cr_s]
          by_cases h6 : 0 ≤ v
          · simp only [if_pos h6]
            by_cases h7 : v < 9999
            · rw [if_pos h7, if_pos (show v ≤ 9999 by rw [i32_lt] at h7; rw [i32_le]; omega)]
              exact ⟨_, rfl, rfl⟩
            · rw [if_neg h7]
              by_cases h8 : v ≤ 9999
              · rw [if_pos h8]
                have : v = 9999 := by
                  rw [i32_eq]
                  rw [i32_lt] at h7
                  rw [i32_le] at h8
                  omega
                subst this
                exact ⟨_, rfl, rfl⟩
              · rw [if_neg h8]
                exact ⟨_, rfl, rfl⟩
          · simp only [if_neg h6]
            exact ⟨_, rfl, rfl⟩
        · simp only [if_neg h5]
          exact ⟨_, rfl, rfl⟩
    unfold f_X1_bearable
    simp only [jn_e]
    by_cases h4 : nI k = 0
    · obtain ⟨v, v1, v2⟩ := key 300 (Or.inr ⟨300, by omega, rfl⟩)
      simp only [if_pos h4, v1, v2, cr_s]
      exact ⟨_, _, _, rfl, rfl, hr⟩
    · have k0 : k ≠ 0 := fun e => h4 (by rw [e]; rfl)
      obtain ⟨r, r1, r2, r3⟩ := dgs h (show k - 1 < 4 by omega)
      obtain ⟨v, v1, v2⟩ := key r r1
      have ek : nI k - 1 = nI (k - 1) := by rw [n_1, pk_sub (by omega)]
      simp only [if_neg h4, ek, r2, r3, v1, v2, cr_s]
      exact ⟨_, _, _, rfl, rfl, hr⟩
  · simp only [if_neg h1, ite_self]; exact ok_ref h
