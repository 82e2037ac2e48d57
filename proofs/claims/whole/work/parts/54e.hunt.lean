theorem st_hunt (n : Nat) (a : Int32) {σ τ : Hp} (h : RR n σ τ) : Ok32 n (f_X11_hunt a σ) (f_X12_hunt a τ) := by
  simp only [f_X11_hunt, f_X11_hunt_j25, f_X12_hunt, jn_e, lt_e, k_within, k_isIn, k_isGas, k_isRoom, k_isPipe, k_isPump, k_out, cl_s, cr_s, rf_1, rf_2, rf_4, rf_6, rf_0, e_no1, e_no2, e_no3, e_no4, e_no6, e_no7, e_refuse1, e_refuse2, e_refuse3, e_refuse4, e_refuse6, e_refuse7, n1z, n2z, n3z, n4z, n6z, z0z, z1z, i32_lt, i32_le, Int.reduceAdd, Int.reduceSub, if_true, if_false, l_0, l_4, show (3 : Int64).toInt = 3 from rfl, d_0]
  by_cases h1 : 0 ≤ a.toInt ∧ a.toInt < 4
  · simp only [if_pos h1, z1z]
    obtain ⟨d, hB, hC, hM⟩ := hunt_of h
    -- the class
    obtain ⟨σ1, a1, a2, a3⟩ := c_shown hB hC
    obtain ⟨σ2, b1, b2, b3⟩ := fill_e 84 8 (by omega) 0 σ1
    obtain ⟨σ3, c1, c2, c3⟩ := out_C hB (HC_fr (by decide) b3 (HC_fr (by decide) a3 hC)) (fun i hi => by rw [b3 83 (by decide)]; exact a2 i hi) b2
    have fC : fr [83, 84] σ σ3 := fr_t (fr_t (fr_m (by decide) a3) (fr_m (by decide) b3)) (fr_m (by decide) c3)
    -- the model
    obtain ⟨τ1, d1, d2, d3⟩ := m_zero8 (f_X12_hunt_j42 a) τ
    obtain ⟨τ2, e1, e2, e3⟩ := out_M hB (HM_fr (by decide) d3 hM) d2 (f_X12_hunt_j111 a)
    have fM : fr [147] τ τ2 := fr_t d3 e3
    have hR : RR (n + 1) σ3 τ2 := RR_keep (RR_same h) (KC_fr (by decide) fC) (KM_fr (by decide) fM) (fun q hq => fC q (by revert hq; revert q; decide)) (fun q hq => fM q (by revert hq; revert q; decide)) (by rw [fM 86 (by decide)])
    rw [d1]
    unfold f_X12_hunt_j42
    rw [jn_e, e1]
    unfold f_X9_found f_X9_countFitting
    rw [a1, cr_s, b1, cr_s, c1]
    simp only [cl_s]
    have hc : ctN d 256 ≤ 256 := ctN_le d 256
    have hv : ∀ p, hvN d p 256 ≤ ctN d 256 := fun p => hvN_le d p 256
    generalize hcc : ctN d 256 = c at hc hv c1 e1 ⊢
    generalize hvv : (fun p => hvN d p 256) = v
    have hv' : ∀ p, v p ≤ c := fun p => by rw [← hvv]; exact hv p
    have h84 : ∀ p, p < 8 → σ3.1 84 p = nI (v p) := fun p hp => by rw [← hvv]; exact c2 p hp
    have h147 : ∀ p, p < 8 → τ2.1 147 p = nI (v p) := fun p hp => by rw [← hvv]; exact e2 p hp
    rw [c_next hc hv' h84, c_bits hc hv' h84, cr_s]
    unfold f_X12_hunt_j111
    rw [jn_e]
    have hm : lp (f_X12_hunt_l128 (nI c, τ2) (f_X12_hunt_j269 a (nI c, τ2))) FU ((0 : Int32), (0 : Int32), (-9 : Int32), (1000 : Int32), (0 : Int32)) = f_X12_hunt_j269 a (nI c, τ2) (nI (bsN (fun p => decide (v p = c) && decide (0 < c)) 8), nI (bsN (fun p => decide (v p = 0) && decide (0 < c)) 8), (nxN c v 8).1) := by
      by_cases h0 : 0 < c
      · rw [m_next hc hv' h0 h147, (nx_mx hc hv' 8).1]
        simp only [decide_eq_true h0, Bool.and_true]
      · have h00 : c = 0 := by omega
        have hz : ∀ p, nxN c v p = ((-9 : Int32), c) := fun p => by
          induction p with
          | zero => rfl
          | succ p ih => show (if (nxN c v p).2 ≤ max (v p) (c - v p) then nxN c v p else (nI p, max (v p) (c - v p))) = _; rw [ih, if_pos (by dsimp only; omega)]
        rw [hz 8, bsN_0 (f := fun p => decide (v p = c) && decide (0 < c)) (fun p => by rw [decide_eq_false h0, Bool.and_false]), bsN_0 (f := fun p => decide (v p = 0) && decide (0 < c)) (fun p => by rw [decide_eq_false h0, Bool.and_false])]
        refine lp_n (s := ((0 : Int32), (0 : Int32), (-9 : Int32), (1000 : Int32), (0 : Int32))) (Q := fun r => r = f_X12_hunt_j269 a (nI c, τ2) (nI 0, nI 0, ((-9 : Int32), c).1)) 0 (fun _ s => s = ((0 : Int32), (0 : Int32), (-9 : Int32), (1000 : Int32), (0 : Int32))) (fun i s hi => absurd hi (by omega)) ?_ 0 (Nat.le_refl _) (by omega) rfl
        rintro s rfl K
        unfold f_X12_hunt_l128
        dsimp only
        rw [if_neg (by decide), h00, if_pos (by decide)]
        rfl
    rw [hm]
    unfold f_X12_hunt_j269 f_X12_hunt_j298
    dsimp only
    rw [jn_e]
    by_cases k0 : a = 0
    · simp only [if_pos k0]
      exact ⟨_, _, _, rfl, rfl, hR⟩
    by_cases k1 : a = 1
    · simp only [if_neg k0, if_pos k1, if_neg (show ¬ a = 3 by rw [k1]; decide)]
      exact ⟨_, _, _, rfl, rfl, hR⟩
    by_cases k2 : a = 2
    · simp only [if_neg k0, if_neg k1, if_pos k2, if_neg (show ¬ a = 3 by rw [k2]; decide)]
      exact ⟨_, _, _, rfl, rfl, hR⟩
    have k3 : a = 3 := by
      have ea := n_of h1.1
      have q0 : a.toInt.toNat ≠ 0 := fun e => k0 (by rw [ea, e]; rfl)
      have q1 : a.toInt.toNat ≠ 1 := fun e => k1 (by rw [ea, e]; rfl)
      have q2 : a.toInt.toNat ≠ 2 := fun e => k2 (by rw [ea, e]; rfl)
      rw [ea, show a.toInt.toNat = 3 by omega]; rfl
    simp only [if_neg k0, if_neg k1, if_neg k2, if_pos k3]
    exact ⟨_, _, _, rfl, rfl, hR⟩
  · simp only [if_neg h1, z0z, if_true]
    exact ok_ref h
