/-! ===== what gauges read ===== -/
def rdN (s a : Nat → Nat) (u r : Nat) : Nat → Nat
  | 0 => 0
  | g + 1 => rdN s a u r g + s (3 * u + g) * a (3 * r + g)
theorem st_reads (n : Nat) (hn : n < 512) (a b : Int32) {σ τ : Hp} (h : RR n σ τ) : Ok32 n (f_X11_reads a b σ) (f_X12_reads a b τ) := by
  obtain ⟨hr, hr0, hr5⟩ := rr_rooms h
  simp only [f_X11_reads, f_X11_reads_j22, f_X12_reads, f_X12_reads_j20, jn_e, lt_e, k_within, k_isIn, k_isGas, k_isRoom, k_isPipe, k_isPump, k_out, cl_s, cr_s, rf_1, rf_2, rf_4, rf_6, rf_0, e_no1, e_no2, e_no3, e_no4, e_no6, e_no7, e_refuse1, e_refuse2, e_refuse3, e_refuse4, e_refuse6, e_refuse7, n1z, n2z, n3z, n4z, n6z, z0z, z1z, i32_lt, i32_le, Int.reduceAdd, Int.reduceSub, if_true, if_false, hr, l_0, l_3, d_0, d_2, ile]
  by_cases h1 : 0 ≤ a.toInt ∧ a.toInt < 3
  · simp only [if_pos h1]
    by_cases h2 : 0 ≤ b.toInt ∧ b.toInt < (σ.1 1 0).toInt
    · simp only [if_pos h2]
      obtain ⟨hB, hC, hM⟩ := RR_pl h
      obtain ⟨x, k, u0, u1, u2, gc, gm, ni, ou, wn, hz⟩ := RR_gs h
      obtain ⟨l1, l2, l3, l4⟩ := GS_lt ni (by omega)
      have hg := h.2.2.2.2.2.2.1
      obtain ⟨s1, s2, s3, s4⟩ := hg
      have ea := n_of h1.1
      have eb := n_of h2.1
      generalize hra : a.toInt.toNat = u at ea
      generalize hrb : b.toInt.toNat = r at eb
      have q1 : r < plN σ 1 0 := by show r < (σ.1 1 0).toInt.toNat; omega
      subst ea eb
      have hb0 := hB.1.1
      have hu : u < 3 := by omega
      have G1 : σ.1 14 = nrow x.1.1 := gc.1
      have S1 : σ.1 68 = nrow (fun k => (σ.1 68 k).toInt.toNat) := nrow_of (fun k => (s3 k).1)
      have S2 : ∀ k, (σ.1 68 k).toInt.toNat ≤ 9 := fun k => by have := (s3 k).2; omega
      generalize hs : (fun k => (σ.1 68 k).toInt.toNat) = s at S1
      have S3 : ∀ k, s k ≤ 9 := fun k => by rw [← hs]; exact S2 k
      have hrd : ∀ g, g ≤ 3 → rdN s x.1.1 u r g ≤ 6300000000 * g := by
        intro g
        induction g with
        | zero => intro _; exact Nat.le_refl _
        | succ g ih =>
          intro hg
          have h5 := ih (by omega)
          have h6 := Nat.mul_le_mul (S3 (3 * u + g)) (Nat.le_of_lt (l1 (3 * r + g) (by omega)))
          show rdN s x.1.1 u r g + _ ≤ _
          omega
      have hr3 := hrd 3 (by omega)
      have hc : f_X3_shown (nI u) (nI r) σ = some (nI (min (rdN s x.1.1 u r 3 / 10) 2000000000)) := by
        unfold f_X3_shown
        rw [jn_e]
        refine lp_d (Q := fun y => y = some (nI (min (rdN s x.1.1 u r 3 / 10) 2000000000))) 3 (fun g => (lN (rdN s x.1.1 u r g), nI g)) ?_ ?_ (by omega)
        · intro g hg K
          have a1 := S3 (3 * u + g)
          have a2 := l1 (3 * r + g) (by omega)
          simp (disch := omega) only [f_X3_shown_l6, f_X4_amount, f_X4_amount_j27, jn_e, lt_e, cr_s, if_true, le_f, n_1, n_3, pk_mul, nI_add, Nat.mul_comm u 3, Nat.mul_comm r 3, Nat.reduceAdd, ldI_n, S1, G1, nrow_at, nI_l, lN_mul, lN_add]
          rfl
        · intro K
          have e1 : (if lN (rdN s x.1.1 u r 3 / 10) < lN 2000000000 then lN (rdN s x.1.1 u r 3 / 10) else lN 2000000000) = lN (min (rdN s x.1.1 u r 3 / 10) 2000000000) := minL (by omega) (by omega)
          simp (disch := omega) only [f_X3_shown_l6, f_X3_shown_j45, le_t, n_3, L_10, L_2G, dvJ_n, pk_lDiv, e1, lN_i]
      have b0 := S3 (3 * u)
      have b1 := S3 (3 * u + 1)
      have b2 := S3 (3 * u + 2)
      have d0 := l1 (3 * r) (by omega)
      have d1 := l1 (3 * r + 1) (by omega)
      have d2 := l1 (3 * r + 2) (by omega)
      have er : s (3 * u) * x.1.1 (3 * r) + s (3 * u + 1) * x.1.1 (3 * r + 1) + s (3 * u + 2) * x.1.1 (3 * r + 2) = rdN s x.1.1 u r 3 := by
        simp only [rdN, Nat.zero_add, Nat.add_zero]
      have hm : f_X12_readsBy (nI u) (lN (x.1.1 (3 * r))) (lN (x.1.1 (3 * r + 1))) (lN (x.1.1 (3 * r + 2))) τ = some (nI (min (rdN s x.1.1 u r 3 / 10) 2000000000)) := by
        unfold f_X12_readsBy
        simp (disch := omega) only [n_1, n_2, n_3, pk_mul, nI_add, ldI_n, ← s1, S1, nrow_at, nI_l, lN_mul, lN_add, er, L_10, dvJ_n, pk_lDiv]
        unfold f_X12_least f_X12_least_j15
        simp only [jn_e, lg_cmp_le, L_2G]
        generalize hz : rdN s x.1.1 u r 3 / 10 = z
        by_cases h : z ≤ 2000000000
        · rw [if_pos ((pk_lLE (by omega) (by omega)).2 h), Nat.min_eq_left h, lN_i]; rfl
        · rw [if_neg (fun h5 => h ((pk_lLE (by omega) (by omega)).1 h5)), Nat.min_eq_right (by omega)]; rfl
      have M1 : τ.1 99 = nrow x.1.1 := gm.1
      rw [hc, cr_s]
      simp (disch := omega) only [n_1, n_2, n_3, pk_mul, nI_add, ldI_n, M1, nrow_at, nI_l, hm, cr_s]
      exact ⟨_, _, _, rfl, rfl, RR_same h⟩
    · simp only [if_neg h2]; exact ok_ref h
  · simp only [if_neg h1]; exact ok_ref h
