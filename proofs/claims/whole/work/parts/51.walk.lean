theorem m_dd {w : Nat → Bool} {y : Nat} (hy : y < 5) {τ : Hp} {h acc : Nat → Nat} (hM : MS w τ h acc) {a : Nat} (ha : a < 25) {t27 : Int32 × Int32 × Int32 × Hp} (h27 : t27.2.2.1 = nI (TT a)) (k336 : (Int32 × Int32 × Hp) → Option (Int32 × Hp)) : ∃ τ', lp (f_X12_walks_l158 (nI y) t27 k336) FU (nI (acc 26), nI (acc 25), (0 : Int32), τ) = k336 (nI (mD (w (5 * y)) w h a acc 4 26), nI (mD (w (5 * y)) w h a acc 4 25), τ') ∧ MS w τ' h (mD (w (5 * y)) w h a acc 4) ∧ fr [134] τ τ' := by
  refine lp_n (Q := fun r => ∃ τ', r = k336 (nI (mD (w (5 * y)) w h a acc 4 26), nI (mD (w (5 * y)) w h a acc 4 25), τ') ∧ MS w τ' h (mD (w (5 * y)) w h a acc 4) ∧ fr [134] τ τ') 4 (fun d (s : Int32 × Int32 × Int32 × Hp) => ∃ ρ, s = (nI (mD (w (5 * y)) w h a acc d 26), nI (mD (w (5 * y)) w h a acc d 25), nI d, ρ) ∧ MS w ρ h (mD (w (5 * y)) w h a acc d) ∧ fr [134] τ ρ) ?_ ?_ 0 (by omega) (by omega) ⟨τ, rfl, hM, fr_0 _ _⟩
  · rintro d s hd ⟨ρ, rfl, h1, h2⟩ K
    obtain ⟨ρ1, g1, g2, g3⟩ := m_d hy h1 ha hd h27 k336 K
    exact ⟨_, ⟨ρ1, rfl, g2, fr_t h2 g3⟩, g1⟩
  · rintro s ⟨ρ, rfl, h1, h2⟩ K
    refine ⟨ρ, ?_, h1, h2⟩
    unfold f_X12_walks_l158
    rw [if_pos (show (4 : Int32) ≤ nI 4 from nI_le (a := 4) (b := 4) (by omega) (by omega))]
theorem m_kk {w : Nat → Bool} {y : Nat} (hy : y < 5) {τ : Hp} {h acc : Nat → Nat} (hM : MS w τ h acc) (k342 : (Int32 × Int32 × Hp) → Option (Int32 × Hp)) : ∃ τ', lp (f_X12_walks_l148 (nI y) k342) FU (nI (acc 26), nI (acc 25), (0 : Int32), τ) = k342 (nI (mSs (w (5 * y)) w h acc 25 26), nI (mSs (w (5 * y)) w h acc 25 25), τ') ∧ MS w τ' h (mSs (w (5 * y)) w h acc 25) ∧ fr [134] τ τ' := by
  refine lp_n (Q := fun r => ∃ τ', r = k342 (nI (mSs (w (5 * y)) w h acc 25 26), nI (mSs (w (5 * y)) w h acc 25 25), τ') ∧ MS w τ' h (mSs (w (5 * y)) w h acc 25) ∧ fr [134] τ τ') 25 (fun k (s : Int32 × Int32 × Int32 × Hp) => ∃ ρ, s = (nI (mSs (w (5 * y)) w h acc k 26), nI (mSs (w (5 * y)) w h acc k 25), nI k, ρ) ∧ MS w ρ h (mSs (w (5 * y)) w h acc k) ∧ fr [134] τ ρ) ?_ ?_ 0 (by omega) (by omega) ⟨τ, rfl, hM, fr_0 _ _⟩
  · rintro k s hk ⟨ρ, rfl, h1, h2⟩ K
    rw [mSs_s]
    generalize mSs (w (5 * y)) w h acc k = A at h1 ⊢
    have n25 : ¬ ((25 : Int32) ≤ nI k) := nI_ge (a := k) (b := 25) (by omega) (by omega)
    obtain ⟨ρ1, g1, g2, g3⟩ := m_dd hy h1 (TT_lt hk) (t27 := (nI (A 26), nI (A 25), nI k, ρ)) (by rw [TT_TT hk]) (f_X12_walks_j336 (nI (A 26), nI (A 25), nI k, ρ) K)
    refine ⟨(nI (mD (w (5 * y)) w h (TT k) A 4 26), nI (mD (w (5 * y)) w h (TT k) A 4 25), nI (k + 1), ρ1), ⟨ρ1, rfl, g2, fr_t h2 g3⟩, ?_⟩
    unfold f_X12_walks_l148
    dsimp only
    rw [if_neg n25, jn_e, g1]
    unfold f_X12_walks_j336
    rw [lt_e, nI_1]
  · rintro s ⟨ρ, rfl, h1, h2⟩ K
    refine ⟨ρ, ?_, h1, h2⟩
    unfold f_X12_walks_l148
    rw [if_pos (show (25 : Int32) ≤ nI 25 from nI_le (a := 25) (b := 25) (by omega) (by omega))]
/-- a step of the model -/
def MR (w : Nat → Bool) (τ : Hp) (x : (Nat → Nat) × Nat × Nat) : Prop := (∀ j, j < 25 → τ.1 133 (TT j) = nI (x.1 j)) ∧ (∀ j, j < 25 → τ.1 132 (TT j) = if w j then 1 else 0) ∧ τ.1 135 = z0.1 135 ∧ τ.1 136 = z0.1 136
theorem m_zero (τ : Hp) (k145 : Hp → Option (Int32 × Hp)) : ∃ τ', lp (f_X12_walks_l124 k145) FU ((0 : Int32), τ) = k145 τ' ∧ (∀ k, k < 25 → τ'.1 134 k = 0) ∧ fr [134] τ τ' := by
  refine lp_h (Q := fun r => ∃ τ', r = k145 τ' ∧ (∀ k, k < 25 → τ'.1 134 k = 0) ∧ fr [134] τ τ') 25 (fun i ρ => (∀ k, k < i → ρ.1 134 k = 0) ∧ fr [134] τ ρ) ?_ ?_ (by omega) ⟨fun k h => absurd h (by omega), fr_0 _ _⟩
  · rintro i ρ hi ⟨h1, h2⟩ K
    refine ⟨sI ρ 134 i 0, ⟨fun k hk => ?_, fr_s (by decide) h2⟩, ?_⟩
    · show upd (ρ.1 134) i 0 k = 0
      by_cases e : k = i
      · subst e; exact pk_us
      · rw [pk_un e]; exact h1 k (by omega)
    · simp (disch := omega) only [f_X12_walks_l124, show (25 : Int32) = nI 25 from rfl, le_f, stI_n, lt_e, nI_1]
  · rintro ρ ⟨h1, h2⟩ K
    refine ⟨ρ, ?_, h1, h2⟩
    simp (disch := omega) only [f_X12_walks_l124, show (25 : Int32) = nI 25 from rfl, le_t]
theorem m_copy (τ : Hp) (k372 : Hp → Option (Int32 × Hp)) : ∃ τ', lp (f_X12_walks_l345 k372) FU ((0 : Int32), τ) = k372 τ' ∧ (∀ k, k < 25 → τ'.1 133 k = τ.1 134 k) ∧ fr [133] τ τ' := by
  refine lp_h (Q := fun r => ∃ τ', r = k372 τ' ∧ (∀ k, k < 25 → τ'.1 133 k = τ.1 134 k) ∧ fr [133] τ τ') 25 (fun i ρ => (∀ k, k < i → ρ.1 133 k = τ.1 134 k) ∧ fr [133] τ ρ) ?_ ?_ (by omega) ⟨fun k h => absurd h (by omega), fr_0 _ _⟩
  · rintro i ρ hi ⟨h1, h2⟩ K
    refine ⟨sI ρ 133 i (τ.1 134 i), ⟨fun k hk => ?_, fr_s (by decide) h2⟩, ?_⟩
    · show upd (ρ.1 133) i (τ.1 134 i) k = _
      by_cases e : k = i
      · subst e; exact pk_us
      · rw [pk_un e]; exact h1 k (by omega)
    · simp (disch := omega) only [f_X12_walks_l345, show (25 : Int32) = nI 25 from rfl, le_f, ldI_n, stI_n, lt_e, nI_1, h2 134 (by decide)]
  · rintro ρ ⟨h1, h2⟩ K
    refine ⟨ρ, ?_, h1, h2⟩
    simp (disch := omega) only [f_X12_walks_l345, show (25 : Int32) = nI 25 from rfl, le_t]
theorem m_step {w : Nat → Bool} {y : Nat} (hy : y < 5) {τ : Hp} {x : (Nat → Nat) × Nat × Nat} (hM : MR w τ x) {n i : Nat} (hi : i < n) (hn : n ≤ 12) (k378 : (Int32 × Int32 × Hp) → Option (Int32 × Hp)) (K : (Int32 × Int32 × Int32 × Hp) → Option (Int32 × Hp)) : ∃ τ', f_X12_walks_l103 (nI y) (nI n) k378 K (nI x.2.2, nI x.2.1, nI i, τ) = K (nI (nM (w (5 * y)) w x).2.2, nI (nM (w (5 * y)) w x).2.1, nI (i + 1), τ') ∧ MR w τ' (nM (w (5 * y)) w x) ∧ fr [133, 134] τ τ' := by
  obtain ⟨r1, r2, r3, r4⟩ := hM
  have ni : ¬ (nI n ≤ nI i) := nI_ge hi (by omega)
  obtain ⟨τ1, a1, a2, a3⟩ := m_zero τ (f_X12_walks_j145 (nI y) (nI x.2.2, nI x.2.1, nI i, τ) K (nI (4 * x.2.2)) (nI (4 * x.2.1)))
  have hS : MS w τ1 x.1 (ac0 x.2.1 x.2.2) := by
    refine ⟨by rw [a3 133 (by decide)]; exact r1, fun j hj => ?_, by rw [a3 132 (by decide)]; exact r2, by rw [a3 135 (by decide)]; exact r3, by rw [a3 136 (by decide)]; exact r4⟩
    rw [a2 _ (TT_lt hj)]
    unfold ac0
    rw [if_neg (by omega), if_neg (by omega)]
    rfl
  obtain ⟨τ2, b1, b2, b3⟩ := m_kk hy hS (f_X12_walks_j342 (nI x.2.2, nI x.2.1, nI i, τ) K)
  unfold nM
  dsimp only
  generalize mSs (w (5 * y)) w x.1 (ac0 x.2.1 x.2.2) 25 = A at b1 b2 ⊢
  obtain ⟨τ3, c1, c2, c3⟩ := m_copy τ2 (f_X12_walks_j372 (nI x.2.2, nI x.2.1, nI i, τ) K (nI (A 26), nI (A 25), τ2))
  obtain ⟨s1, s2, s3, s4, s5⟩ := b2
  refine ⟨τ3, ?_, ⟨fun j hj => ?_, by rw [c3 132 (by decide)]; exact s3, by rw [c3 135 (by decide)]; exact s4, by rw [c3 136 (by decide)]; exact s5⟩, fr_t (fr_t (fr_m (by decide) a3) (fr_m (by decide) b3)) (fr_m (by decide) c3)⟩
  · unfold f_X12_walks_l103
    dsimp only
    rw [if_neg ni, lt_e, lt_e, n_4, pk_mul, pk_mul, Nat.mul_comm x.2.2 4, Nat.mul_comm x.2.1 4, jn_e, a1]
    unfold f_X12_walks_j145
    rw [jn_e]
    have z1 : nI (4 * x.2.2) = nI (ac0 x.2.1 x.2.2 26) := rfl
    have z2 : nI (4 * x.2.1) = nI (ac0 x.2.1 x.2.2 25) := rfl
    rw [z1, z2, b1]
    unfold f_X12_walks_j342
    rw [jn_e]
    dsimp only
    rw [c1]
    unfold f_X12_walks_j372
    rw [lt_e, nI_1]
  · rw [c2 _ (TT_lt hj)]
    exact s2 j hj
theorem m_init {y : Nat} (hy : y < 5) (τ : Hp) (k100 : Hp → Option (Int32 × Hp)) : ∃ τ', lp (f_X12_walks_l69 (nI y) k100) FU ((0 : Int32), τ) = k100 τ' ∧ (∀ k, k < 25 → τ'.1 133 k = if k = y then 1 else 0) ∧ fr [133] τ τ' := by
  refine lp_h (Q := fun r => ∃ τ', r = k100 τ' ∧ (∀ k, k < 25 → τ'.1 133 k = if k = y then 1 else 0) ∧ fr [133] τ τ') 25 (fun i ρ => (∀ k, k < i → ρ.1 133 k = if k = y then 1 else 0) ∧ fr [133] τ ρ) ?_ ?_ (by omega) ⟨fun k h => absurd h (by omega), fr_0 _ _⟩
  · rintro i ρ hi ⟨h1, h2⟩ K
    refine ⟨sI ρ 133 i (if i = y then 1 else 0), ⟨fun k hk => ?_, fr_s (by decide) h2⟩, ?_⟩
    · show upd (ρ.1 133) i _ k = _
      by_cases e : k = i
      · subst e; exact pk_us
      · rw [pk_un e]; exact h1 k (by omega)
    · by_cases e : i = y
      · simp (disch := omega) only [f_X12_walks_l69, f_X12_walks_j93, jn_e, show (25 : Int32) = nI 25 from rfl, le_f, if_pos e, if_pos (congrArg nI e), stI_n, lt_e, nI_1]
      · simp (disch := omega) only [f_X12_walks_l69, f_X12_walks_j93, jn_e, show (25 : Int32) = nI 25 from rfl, le_f, if_neg e, if_neg (show ¬ (nI i = nI y) from fun e' => e ((nI_eq (by omega) (by omega)).1 e')), stI_n, lt_e, nI_1]
  · rintro ρ ⟨h1, h2⟩ K
    refine ⟨ρ, ?_, h1, h2⟩
    simp (disch := omega) only [f_X12_walks_l69, show (25 : Int32) = nI 25 from rfl, le_t]
theorem m_sum {τ : Hp} {h : Nat → Nat} (hh : ∀ j, j < 25 → τ.1 133 (TT j) = nI (h j)) {t9 : Int32 × Int32 × Hp} (h9 : t9.2.2 = τ) (k409 : Int32 → Option (Int32 × Hp)) : lp (f_X12_walks_l384 t9 k409) FU ((0 : Int32), (0 : Int32)) = k409 (nI (sq h 25)) := by
  rw [← sq_TT h]
  refine lp_d (Q := fun r => r = k409 (nI (sq (fun k => h (TT k)) 25))) 25 (fun k => (nI (sq (fun k => h (TT k)) k), nI k)) ?_ ?_ (by omega)
  · intro k hk K
    have h1 : τ.1 133 k = nI (h (TT k)) := by
      have := hh (TT k) (TT_lt hk)
      rw [TT_TT hk] at this
      exact this
    simp (disch := omega) only [f_X12_walks_l384, show (25 : Int32) = nI 25 from rfl, le_f, h9, ldI_n, h1, lt_e, nI_1, nI_add, sq_s]
  · intro K
    simp (disch := omega) only [f_X12_walks_l384, show (25 : Int32) = nI 25 from rfl, le_t]
theorem m_walks {w : Nat → Bool} {τ : Hp} (hw : ∀ j, j < 25 → τ.1 132 (TT j) = if w j then 1 else 0) (h5 : τ.1 135 = z0.1 135) (h6 : τ.1 136 = z0.1 136) {y n : Nat} (hy : y < 5) (hn : n ≤ 12) {c : Int32} (hc : c = 0 ∨ c = 1 ∨ c = 2) : ∃ τ', lp (f_X12_walks_l69 (nI y) (f_X12_walks_j100 (nI y) (nI n) c)) FU ((0 : Int32), τ) = some (if c = 0 then nI (nMs (w (5 * y)) w (x0W y) n).2.2 else if c = 1 then nI (nMs (w (5 * y)) w (x0W y) n).2.1 else nI (sq (nMs (w (5 * y)) w (x0W y) n).1 25), τ') ∧ fr [133, 134] τ τ' := by
  obtain ⟨τ1, a1, a2, a3⟩ := m_init hy τ (f_X12_walks_j100 (nI y) (nI n) c)
  have hR : MR w τ1 (x0W y) := by
    refine ⟨fun j hj => ?_, by rw [a3 132 (by decide)]; exact hw, by rw [a3 135 (by decide)]; exact h5, by rw [a3 136 (by decide)]; exact h6⟩
    rw [a2 _ (TT_lt hj)]
    show _ = nI (if j = 5 * y then 1 else 0)
    have e : TT j = y ↔ j = 5 * y := by unfold TT; omega
    by_cases e2 : j = 5 * y
    · rw [if_pos e2, if_pos (e.2 e2)]; rfl
    · rw [if_neg e2, if_neg (fun h => e2 (e.1 h))]; rfl
  rw [a1]
  unfold f_X12_walks_j100
  rw [jn_e]
  refine lp_n (Q := fun r => ∃ τ', r = some (if c = 0 then nI (nMs (w (5 * y)) w (x0W y) n).2.2 else if c = 1 then nI (nMs (w (5 * y)) w (x0W y) n).2.1 else nI (sq (nMs (w (5 * y)) w (x0W y) n).1 25), τ') ∧ fr [133, 134] τ τ') n (fun i (s : Int32 × Int32 × Int32 × Hp) => ∃ ρ, s = (nI (nMs (w (5 * y)) w (x0W y) i).2.2, nI (nMs (w (5 * y)) w (x0W y) i).2.1, nI i, ρ) ∧ MR w ρ (nMs (w (5 * y)) w (x0W y) i) ∧ fr [133, 134] τ ρ) ?_ ?_ 0 (by omega) (by omega) ⟨τ1, rfl, hR, fr_m (by decide) a3⟩
  · rintro i s hi ⟨ρ, rfl, h1, h2⟩ K
    obtain ⟨ρ1, g1, g2, g3⟩ := m_step hy h1 hi hn (f_X12_walks_j378 c) K
    exact ⟨_, ⟨ρ1, rfl, g2, fr_t h2 g3⟩, g1⟩
  · rintro s ⟨ρ, rfl, h1, h2⟩ K
    refine ⟨ρ, ?_, h2⟩
    generalize nMs (w (5 * y)) w (x0W y) n = x at h1 ⊢
    unfold f_X12_walks_l103
    dsimp only
    rw [if_pos (nI_le (Nat.le_refl n) (by omega))]
    unfold f_X12_walks_j378
    rw [jn_e, m_sum h1.1 rfl]
    unfold f_X12_walks_j409 f_X12_walks_j430
    rw [jn_e]
    rcases hc with rfl | rfl | rfl
    · rw [if_pos rfl, if_pos rfl]
    · rw [if_neg (by decide), if_pos rfl, if_neg (by decide), if_pos rfl]
    · rw [if_neg (by decide), if_neg (by decide), if_neg (by decide), if_neg (by decide)]
theorem st_walks (n : Nat) (a b c : Int32) {σ τ : Hp} (h : RR n σ τ) : Ok32 n (f_X11_walks a b c σ) (f_X12_walks a b c τ) := by
  simp only [f_X11_walks, f_X11_walks_j73, f_X11_walks_j48, f_X11_walks_j37, f_X11_walks_j27, f_X11_walks_j14, f_X12_walks, jn_e, lt_e, k_within, k_isIn, k_isGas, k_isRoom, k_isPipe, k_isPump, k_out, cl_s, cr_s, rf_1, rf_2, rf_4, rf_6, rf_0, e_no1, e_no2, e_no3, e_no4, e_no6, e_no7, e_refuse1, e_refuse2, e_refuse3, e_refuse4, e_refuse6, e_refuse7, n1z, n2z, n3z, n4z, n6z, z0z, z1z, i32_lt, i32_le, Int.reduceAdd, Int.reduceSub, if_true, if_false, l_0, l_1, l_3, l_5, l_12, d_0, d_1, d_2, d_4, show (12 : Int64).toInt = 12 from rfl, ile]
  by_cases h1 : 0 ≤ a.toInt ∧ a.toInt < 5
  · simp only [if_pos h1]
    by_cases h2 : 0 ≤ c.toInt ∧ c.toInt < 3
    · simp only [if_pos h2]
      by_cases h3 : b.toInt < 1
      · simp only [if_pos h3, ite_self]; exact ok_ref h
      by_cases h4 : 12 < b.toInt
      · simp only [if_neg h3, if_pos h4]; exact ok_ref h
      simp only [if_neg h3, if_neg h4]
      have ea := n_of h1.1
      have eb := n_of (a := b) (by omega)
      generalize hk0 : a.toInt.toNat = y at ea
      generalize hk1 : b.toInt.toNat = m at eb
      subst ea eb
      have hy : y < 5 := by omega
      have hm : m ≤ 12 := by omega
      obtain ⟨d1, d2, d3⟩ := h.2.2.2.2.2.2.2.2.2.1
      have hw : ∀ j, j < 25 → σ.1 64 j = if decide (σ.1 64 j = 1) then 1 else 0 := fun j hj => by
        have h5 := (d1 (j % 5) (j / 5) (by omega) (by omega)).2
        rw [show 5 * (j / 5) + j % 5 = j by omega] at h5
        rcases h5 with h5 | h5
        · rw [h5]; rfl
        · rw [h5]; rfl
      have hw' : ∀ j, j < 25 → τ.1 132 (TT j) = if decide (σ.1 64 j = 1) then 1 else 0 := fun j hj => by
        rw [← hw j hj]
        have h5 := (d1 (j % 5) (j / 5) (by omega) (by omega)).1
        rw [show 5 * (j / 5) + j % 5 = j by omega] at h5
        exact h5.symm
      generalize (fun j => decide (σ.1 64 j = 1)) = w0 at hw hw'
      have hc := lt3 h2
      obtain ⟨σ1, e1, e2⟩ := c_ways (w := fun j => decide (σ.1 64 j = 1)) hw hy hm hc
      obtain ⟨τ1, f1, f2⟩ := m_walks (w := fun j => decide (σ.1 64 j = 1)) hw' d2 d3 hy hm hc
      rw [e1, f1, cl_s]
      refine ⟨_, σ1, τ1, rfl, ?_, RR_keep (RR_same h) (KC_fr (by decide) e2) (KM_fr (by decide) f2) (fun q hq => e2 q (by revert hq; revert q; decide)) (fun q hq => f2 q (by revert hq; revert q; decide)) (by rw [f2 86 (by decide)])⟩
      congr 2
      cases cb : decide (σ.1 64 (5 * y) = 1) with
      | false => rw [nMs_f]; rfl
      | true =>
        obtain ⟨g1, g2, g3⟩ := nMs_w (fun j => decide (σ.1 64 j = 1)) hy m
        rw [g1, g2, g3]
        rcases hc with rfl | rfl | rfl
        · rfl
        · rfl
        · rfl
    · simp only [if_neg h2, ite_self]; exact ok_ref h
  · simp only [if_neg h1, ite_self]; exact ok_ref h
