/-! ===== push, and the ticks ahead ===== -/
def s3N (a : Nat → Nat) (r : Nat) : Nat → Nat
  | 0 => 0
  | g + 1 => s3N a r g + a (3 * r + g)
def psN (pl : Nat → Nat → Nat) (a : Nat → Nat) (r : Nat) : Nat := min (s3N a r 3 * 100 / pl 2 r) 2000000000
theorem s3N_le {a : Nat → Nat} {r : Nat} (hr : r < 5) (hb : ∀ k, k < 15 → a k < 700000000) : ∀ g, g ≤ 3 → s3N a r g ≤ 700000000 * g
  | 0, _ => Nat.le_refl _
  | g + 1, hg => by
    have h1 := s3N_le hr hb g (by omega)
    have h2 := hb (3 * r + g) (by omega)
    show s3N a r g + _ ≤ _
    omega
theorem c_push13 {pl : Nat → Nat → Nat} (hB : PB pl) {σ : Hp} (hP : PC σ pl) {a : Nat → Nat} (ha : σ.1 14 = nrow a) (hb : ∀ k, k < 15 → a k < 700000000) {r : Nat} (hr : r < pl 1 0) : f_X4_push 13 (nI r) σ = some (nI (psN pl a r)) := by
  have h0 := hB.1.1
  have hsz := hB.2.1 r hr
  have h3 := s3N_le (a := a) (r := r) (by omega) hb 3 (by omega)
  unfold f_X4_push
  rw [jn_e]
  refine lp_d (Q := fun x => x = some (nI (psN pl a r))) 3 (fun g => (lN (s3N a r g), nI g)) ?_ ?_ (by omega)
  · intro g hg K
    have hb1 := hb (3 * r + g) (by omega)
    simp (disch := omega) only [f_X4_push_l5, lt_e, n_1, n_3, le_f, pk_mul, nI_add, Nat.mul_comm r 3, Nat.reduceAdd, ldI_n, ha, nrow_at, nI_l, lN_add]
    rfl
  · intro K
    have h4 : s3N a r 3 * 100 / pl 2 r < 9223372036854775808 := by
      have := Nat.div_le_self (s3N a r 3 * 100) (pl 2 r)
      omega
    have e1 : (if lN (s3N a r 3 * 100 / pl 2 r) < lN 2000000000 then lN (s3N a r 3 * 100 / pl 2 r) else lN 2000000000) = lN (min (s3N a r 3 * 100 / pl 2 r) 2000000000) := minL h4 (by omega)
    simp (disch := omega) only [f_X4_push_l5, f_X4_push_j32, le_t, n_3, c_dv hB hP hr, cr_s, dvJ_n, L_100, L_2G, lN_mul, pk_lDiv, e1, lN_i]
    rfl
theorem c_push19 {pl : Nat → Nat → Nat} (hB : PB pl) {σ : Hp} (hP : PC σ pl) {a : Nat → Nat} (ha : σ.1 20 = nrow a) (hb : ∀ k, k < 15 → a k < 700000000) {r : Nat} (hr : r < pl 1 0) : f_X4_push 19 (nI r) σ = some (nI (psN pl a r)) := by
  have h0 := hB.1.1
  have hsz := hB.2.1 r hr
  have h3 := s3N_le (a := a) (r := r) (by omega) hb 3 (by omega)
  unfold f_X4_push
  rw [jn_e]
  refine lp_d (Q := fun x => x = some (nI (psN pl a r))) 3 (fun g => (lN (s3N a r g), nI g)) ?_ ?_ (by omega)
  · intro g hg K
    have hb1 := hb (3 * r + g) (by omega)
    simp (disch := omega) only [f_X4_push_l5, lt_e, n_1, n_3, le_f, pk_mul, nI_add, Nat.mul_comm r 3, Nat.reduceAdd, ldI_n, ha, nrow_at, nI_l, lN_add]
    rfl
  · intro K
    have h4 : s3N a r 3 * 100 / pl 2 r < 9223372036854775808 := by
      have := Nat.div_le_self (s3N a r 3 * 100) (pl 2 r)
      omega
    have e1 : (if lN (s3N a r 3 * 100 / pl 2 r) < lN 2000000000 then lN (s3N a r 3 * 100 / pl 2 r) else lN 2000000000) = lN (min (s3N a r 3 * 100 / pl 2 r) 2000000000) := minL h4 (by omega)
    simp (disch := omega) only [f_X4_push_l5, f_X4_push_j32, le_t, n_3, c_dv hB hP hr, cr_s, dvJ_n, L_100, L_2G, lN_mul, pk_lDiv, e1, lN_i]
    rfl
theorem m_push {pl : Nat → Nat → Nat} (hB : PB pl) {τ : Hp} (hP : PM τ pl) {a : Nat → Nat} (ha : τ.1 99 = nrow a) (hb : ∀ k, k < 15 → a k < 700000000) {r : Nat} (hr : r < pl 1 0) : f_X12_push (nI r) τ = some (nI (psN pl a r)) := by
  have h0 := hB.1.1
  have hsz := hB.2.1 r hr
  have h3 := s3N_le (a := a) (r := r) (by omega) hb 3 (by omega)
  have b0 := hb (3 * r) (by omega)
  have b1 := hb (3 * r + 1) (by omega)
  have b2 := hb (3 * r + 2) (by omega)
  have e3 : a (3 * r) + a (3 * r + 1) + a (3 * r + 2) = s3N a r 3 := by
    simp only [s3N, Nat.zero_add, Nat.add_zero]
  have h4 : s3N a r 3 * 100 / pl 2 r < 9223372036854775808 := by
    have := Nat.div_le_self (s3N a r 3 * 100) (pl 2 r)
    omega
  unfold f_X12_push
  simp (disch := omega) only [lt_e, n_1, n_2, n_3, pk_mul, nI_add, ldI_n, ha, nrow_at, nI_l, lN_add, e3, hP.2.1, dvJ_n, L_100, lN_mul, Nat.mul_comm 100 (s3N a r 3), pk_lDiv]
  unfold f_X12_least f_X12_least_j15
  simp only [jn_e, lg_cmp_le, L_2G, psN]
  generalize s3N a r 3 * 100 / pl 2 r = z at h4
  by_cases h : z ≤ 2000000000
  · rw [if_pos ((pk_lLE h4 (by omega)).2 h), Nat.min_eq_left h, lN_i]; rfl
  · rw [if_neg (fun h5 => h ((pk_lLE h4 (by omega)).1 h5)), Nat.min_eq_right (by omega)]; rfl
theorem psN_lt (pl : Nat → Nat → Nat) (a : Nat → Nat) (r : Nat) : psN pl a r ≤ 2000000000 := Nat.min_le_right _ _
