theorem m_none (τ : Hp) (k : Int32 × Int32 × Int32 → Option (Int32 × Hp)) (c : Nat) (hc : c = 0) : lp (f_X12_hunt_l128 (nI c, τ) k) FU ((0 : Int32), (0 : Int32), (-9 : Int32), (1000 : Int32), (0 : Int32)) = k (nI 0, nI 0, (-9 : Int32)) := by
  refine lp_n (s := ((0 : Int32), (0 : Int32), (-9 : Int32), (1000 : Int32), (0 : Int32))) (Q := fun r => r = k (nI 0, nI 0, (-9 : Int32))) 0 (fun _ s => s = ((0 : Int32), (0 : Int32), (-9 : Int32), (1000 : Int32), (0 : Int32))) (fun i s hi => absurd hi (by omega)) ?_ 0 (Nat.le_refl _) (by omega) rfl
  rintro s rfl K
  unfold f_X12_hunt_l128
  dsimp only
  rw [if_neg (by decide), hc, if_pos (by decide)]
  rfl
theorem nx_none {v : Nat → Nat} (hv : ∀ p, v p ≤ 0) : ∀ p, nxN 0 v p = ((-9 : Int32), 0)
  | 0 => rfl
  | p + 1 => by
    show (if (nxN 0 v p).2 ≤ max (v p) (0 - v p) then nxN 0 v p else (nI p, max (v p) (0 - v p))) = _
    rw [nx_none hv p, if_pos (Nat.zero_le _)]
def ansN (a : Int32) (c : Nat) (v : Nat → Nat) : Int32 := if a = 0 then nI c else if a = 3 then (nxN c v 8).1 else nI (bsN (fun p => decide (v p = (if a = 1 then c else 0)) && decide (0 < c)) 8)
theorem c_found {c : Nat} {v : Nat → Nat} (hc : c ≤ 256) (hv : ∀ p, v p ≤ c) {σ σ' : Hp} (h : f_X9_countFitting σ = some (nI c, σ')) (h84 : ∀ p, p < 8 → σ'.1 84 p = nI (v p)) (a : Int32) : f_X9_found a σ = some (ansN a c v, σ') := by
  unfold f_X9_found ansN
  rw [h, cl_s, c_next hc hv h84, c_bits hc hv h84, cr_s]
  by_cases e0 : a = 0
  · rw [if_pos e0, if_pos e0]
  by_cases e3 : a = 3
  · rw [if_neg e0, if_neg e0, if_pos e3, if_pos e3]
  · rw [if_neg e0, if_neg e0, if_neg e3, if_neg e3]
theorem m_found {c : Nat} {v : Nat → Nat} (hc : c ≤ 256) (hv : ∀ p, v p ≤ c) {τ : Hp} (h147 : ∀ p, p < 8 → τ.1 147 p = nI (v p)) (a : Int32) (ha : 0 ≤ a.toInt ∧ a.toInt < 4) : f_X12_hunt_j111 a (nI c, τ) = some (ansN a c v, τ) := by
  unfold f_X12_hunt_j111
  rw [jn_e]
  have hm : lp (f_X12_hunt_l128 (nI c, τ) (f_X12_hunt_j269 a (nI c, τ))) FU ((0 : Int32), (0 : Int32), (-9 : Int32), (1000 : Int32), (0 : Int32)) = f_X12_hunt_j269 a (nI c, τ) (nI (bsN (fun p => decide (v p = c) && decide (0 < c)) 8), nI (bsN (fun p => decide (v p = 0) && decide (0 < c)) 8), (nxN c v 8).1) := by
    by_cases h0 : 0 < c
    · rw [m_next hc hv h0 h147, (nx_mx hc hv 8).1]
      simp only [decide_eq_true h0, Bool.and_true]
    · obtain rfl : c = 0 := by omega
      rw [nx_none hv, bsN_0 (f := fun p => decide (v p = 0) && decide (0 < 0)) (fun p => by rw [decide_eq_false h0, Bool.and_false])]
      exact m_none τ _ 0 rfl
  rw [hm]
  unfold f_X12_hunt_j269 f_X12_hunt_j298 ansN
  dsimp only
  rw [jn_e]
  by_cases k0 : a = 0
  · rw [if_pos k0, if_pos k0]
  by_cases k1 : a = 1
  · rw [if_neg k0, if_neg k0, if_pos k1, if_neg (show ¬ a = 3 by rw [k1]; decide)]
    simp only [if_pos k1]
  by_cases k2 : a = 2
  · rw [if_neg k0, if_neg k0, if_neg k1, if_pos k2, if_neg (show ¬ a = 3 by rw [k2]; decide)]
    simp only [if_neg k1]
  have k3 : a = 3 := by
    have ea := n_of ha.1
    have q0 : a.toInt.toNat ≠ 0 := fun e => k0 (by rw [ea, e]; rfl)
    have q1 : a.toInt.toNat ≠ 1 := fun e => k1 (by rw [ea, e]; rfl)
    have q2 : a.toInt.toNat ≠ 2 := fun e => k2 (by rw [ea, e]; rfl)
    rw [ea, show a.toInt.toNat = 3 by omega]; rfl
  rw [if_neg k0, if_neg k0, if_neg k1, if_neg k2, if_pos k3]
theorem c_hunt {d : Hd} {σ : Hp} (hB : HB d) (hC : HC σ d) (a : Int32) : ∃ σ', f_X9_found a σ = some (ansN a (ctNh d 256) (fun p => hvN d p 256), σ') ∧ fr [83, 84] σ σ' := by
  obtain ⟨σ1, a1, a2, a3⟩ := c_shown hB hC
  obtain ⟨σ2, b1, b2, b3⟩ := fill_e 84 8 (by omega) 0 σ1
  obtain ⟨σ3, c1, c2, c3⟩ := out_C hB (HC_fr (by decide) b3 (HC_fr (by decide) a3 hC)) (fun i hi => by rw [b3 83 (by decide)]; exact a2 i hi) b2
  have hcf : f_X9_countFitting σ = some (nI (ctNh d 256), σ3) := by
    unfold f_X9_countFitting
    rw [a1, cr_s, b1, cr_s, c1]
  exact ⟨σ3, c_found (ctN_le d 256) (fun p => hvN_le d p 256) hcf c2 a, fr_t (fr_t (fr_m (by decide) a3) (fr_m (by decide) b3)) (fr_m (by decide) c3)⟩
theorem m_hunt {d : Hd} {τ : Hp} (hB : HB d) (hM : HM τ d) (a : Int32) (ha : 0 ≤ a.toInt ∧ a.toInt < 4) : ∃ τ', lp (f_X12_hunt_l23 (f_X12_hunt_j42 a)) FU ((0 : Int32), τ) = some (ansN a (ctNh d 256) (fun p => hvN d p 256), τ') ∧ fr [147] τ τ' := by
  obtain ⟨τ1, d1, d2, d3⟩ := m_zero8 (f_X12_hunt_j42 a) τ
  obtain ⟨τ2, e1, e2, e3⟩ := out_M hB (HM_fr (by decide) d3 hM) d2 (f_X12_hunt_j111 a)
  refine ⟨τ2, ?_, fr_t d3 e3⟩
  rw [d1]
  unfold f_X12_hunt_j42
  rw [jn_e, e1]
  exact m_found (ctN_le d 256) (fun p => hvN_le d p 256) e2 a ha
theorem m_hunt0 (a : Int32) (τ : Hp) : f_X12_hunt a τ = if 0 ≤ a.toInt ∧ a.toInt < 4 then lp (f_X12_hunt_l23 (f_X12_hunt_j42 a)) FU ((0 : Int32), τ) else some ((-2 : Int32), rfM 2 τ) := by
  unfold f_X12_hunt
  rw [k_isIn, show (3 : Int64).toInt + 1 = 4 from rfl, show (0 : Int64).toInt = 0 from rfl]
  by_cases h1 : 0 ≤ a.toInt ∧ a.toInt < 4
  · rw [if_pos h1, if_pos h1, if_neg (by decide), jn_e]
  · rw [if_neg h1, if_neg h1, if_pos rfl, e_no2, cl_s]
theorem c_hunt0 (a : Int32) (σ : Hp) : f_X11_hunt a σ = if 0 ≤ a.toInt ∧ a.toInt < 4 then cl (f_X9_found a σ) (fun v σ' => some (v, σ')) else some ((-2 : Int32), rfC 2 σ) := by
  unfold f_X11_hunt f_X11_hunt_j25
  rw [k_within, show (4 : Int32).toInt = 4 from rfl]
  by_cases h1 : 0 ≤ a.toInt ∧ a.toInt < 4
  · rw [if_pos h1, if_pos h1, jn_e, if_neg (by decide)]
  · rw [if_neg h1, if_neg h1, jn_e, if_pos rfl, e_refuse2, cl_s]
theorem st_hunt (n : Nat) (a : Int32) {σ τ : Hp} (h : RR n σ τ) : Ok32 n (f_X11_hunt a σ) (f_X12_hunt a τ) := by
  rw [c_hunt0, m_hunt0]
  by_cases h1 : 0 ≤ a.toInt ∧ a.toInt < 4
  · obtain ⟨d, hB, hC, hM⟩ := hunt_of h
    obtain ⟨σ', c1, fC⟩ := c_hunt hB hC a
    obtain ⟨τ', m1, fM⟩ := m_hunt hB hM a h1
    rw [if_pos h1, if_pos h1, c1, m1, cl_s]
    exact ⟨_, _, _, rfl, rfl, RR_keep (RR_same h) (KC_fr (by decide) fC) (KM_fr (by decide) fM) (fun q hq => fC q (by revert hq; revert q; decide)) (fun q hq => fM q (by revert hq; revert q; decide)) (by rw [fM 86 (by decide)])⟩
  · rw [if_neg h1, if_neg h1]
    exact ok_ref h
