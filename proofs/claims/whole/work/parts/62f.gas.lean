theorem m_true {s : Nat → Nat} {q : Nat → Int} {τ : Hp} {D w : Nat} (hG : Gg s q (τ.1 137) (τ.1 138)) (hD : D ≤ 9) (hw : w ≤ 6) : ∃ r, lp (f_X12_trueGas_l64 (nI D) (nI w) τ (f_X12_trueGas_j260 (nI w) τ)) FU ((0 : Int32), (-9 : Int32), (-9 : Int32), (0 : Int32)) = some (r, τ) ∧ r.toInt = tgZ (tgK s q D) w := by
  refine lp_n (Q := fun y => ∃ r : Int32, y = some (r, τ) ∧ r.toInt = tgZ (tgK s q D) w) 68921 (fun k (st : Int32 × Int32 × Int32 × Int32) => st.2.2.2 = nI k ∧ MI (tgK s q D) w k st.1 st.2.1 st.2.2.1) ?_ ?_ 0 (by omega) (by omega) ⟨rfl, rfl, (by decide : (-9 : Int32).toInt = -9), (by decide : (-9 : Int32).toInt = -9)⟩
  · rintro k ⟨n, low, high, xk⟩ hk ⟨h0, h1⟩ K
    obtain rfl : xk = nI k := h0
    dsimp only at h1
    obtain ⟨n', low', high', g1, g2⟩ := tg_step hw hk h1 K
    refine ⟨(n', low', high', nI (k + 1)), ⟨rfl, g2⟩, ?_⟩
    unfold f_X12_trueGas_l64
    dsimp only
    have e1 : nI k / (1681 : Int32) = nI (k / 1681) := pk_div (d := 1681) (by omega) (by omega) (by omega)
    have e2 : nI k / (41 : Int32) = nI (k / 41) := pk_div (d := 41) (by omega) (by omega) (by omega)
    have e3 : nI (k / 41) - nI (k / 41) / (41 : Int32) * (41 : Int32) = nI (k / 41 % 41) := pk_rem (d := 41) (by omega) (by omega) (by omega)
    have e4 : nI k - nI k / (41 : Int32) * (41 : Int32) = nI (k % 41) := pk_rem (d := 41) (by omega) (by omega) (by omega)
    have d1 : ∀ x : Option (Int32 × Hp), dvI (1681 : Int32) x = x := fun x => dvI_n (n := 1681) (by omega) (by omega)
    have d2 : ∀ x : Option (Int32 × Hp), dvI (41 : Int32) x = x := fun x => dvI_n (n := 41) (by omega) (by omega)
    rw [show ∀ y z : Option (Int32 × Hp), (if (68921 : Int32) ≤ nI k then y else z) = z from fun y z => le_f (a := 68921) (by omega) (by omega), d1, e1, lt_e, d2, d2, e4, e2, e3, lt_e, d2, lt_e, jn_e, tg_fits hG hD (by omega) (by omega) (by omega)]
    exact g1
  · rintro ⟨n, low, high, xk⟩ ⟨h0, h1, h2, h3⟩ K
    obtain rfl : xk = nI 68921 := h0
    dsimp only at h1 h2 h3
    have hcn := cn_le (tgK s q D) 68921
    unfold f_X12_trueGas_l64
    dsimp only
    rw [show ∀ y z : Option (Int32 × Hp), (if (68921 : Int32) ≤ nI 68921 then y else z) = y from fun y z => le_t (a := 68921) (Nat.le_refl _) (by omega)]
    unfold f_X12_trueGas_j260 f_X12_trueGas_j281
    rw [jn_e]
    dsimp only
    unfold tgZ
    by_cases w0 : w = 0
    · subst w0
      rw [if_pos (show nI 0 = 0 from rfl), if_pos rfl]
      exact ⟨n, rfl, by rw [h1, nI_toInt (by omega)]⟩
    · rw [if_neg (nI_ne0 (by omega) (by omega)), if_neg w0]
      by_cases w3 : w ≤ 3
      · rw [show ∀ y z : Option (Int32 × Hp), (if (4 : Int32) ≤ nI w then y else z) = z from fun y z => le_f (a := 4) (by omega) (by omega), if_pos w3]
        refine ⟨low, rfl, ?_⟩
        rw [h2, show vw w = w - 1 by unfold vw; rcases (show w = 1 ∨ w = 2 ∨ w = 3 by omega) with rfl | rfl | rfl <;> rfl]
      · rw [show ∀ y z : Option (Int32 × Hp), (if (4 : Int32) ≤ nI w then y else z) = y from fun y z => le_t (a := 4) (by omega) (by omega), if_neg w3]
        refine ⟨high, rfl, ?_⟩
        rw [h3, show vw w = w - 4 by unfold vw; rcases (show w = 4 ∨ w = 5 ∨ w = 6 by omega) with rfl | rfl | rfl <;> rfl]
/-! ===== hidden gases ===== -/
def hdB (s : Nat → Nat) (q : Nat → Int) (g : Nat) : Nat → Bool
  | 0 => false
  | u + 1 => hdB s q g u || (decide (0 ≤ q u) && decide (0 < s (3 * u + g)))
def hdN' (s : Nat → Nat) (q : Nat → Int) : Nat → Int32
  | 0 => 0
  | g + 1 => hdN' s q g ||| (if hdB s q g 3 = true then 0 else (1 : Int32) <<< (nI g &&& 31))
theorem c_hidden {s : Nat → Nat} {q : Nat → Int} {σ : Hp} (hG : Gg s q (σ.1 68) (σ.1 69)) : f_X3_hidden σ = some (hdN' s q 3) := by
  obtain ⟨G1, G2, G3, G4⟩ := hG
  unfold f_X3_hidden
  refine lp_d (Q := fun y => y = some (hdN' s q 3)) 3 (fun g => (hdN' s q g, nI g)) ?_ ?_ (by omega)
  · intro g hg K
    unfold f_X3_hidden_l4
    dsimp only
    rw [show ∀ y z : Option Int32, (if (3 : Int32) ≤ nI g then y else z) = z from fun y z => le_f (a := 3) (by omega) (by omega), jn_e]
    refine lp_d (Q := fun y => y = K (hdN' s q (g + 1), nI (g + 1))) 3 (fun u => (oB (hdB s q g u), nI u)) ?_ ?_ (by omega)
    · intro u hu K2
      have qv : (σ.1 69 u).toInt = q u := G3 u
      have hs9 := G2 (3 * u + g)
      have hK : ∀ t : Int32, f_X3_hidden_j50 (oB (hdB s q g u), nI u) K2 t = K2 (oB (hdB s q g u) ||| t, nI (u + 1)) := fun t => by
        unfold f_X3_hidden_j50
        rw [lt_e, lt_e, nI_1]
      have hB : hdB s q g (u + 1) = (hdB s q g u || (decide (0 ≤ q u) && decide (0 < s (3 * u + g)))) := rfl
      unfold f_X3_hidden_l14 f_X3_hidden_j49
      dsimp only
      rw [show ∀ y z : Option Int32, (if (3 : Int32) ≤ nI u then y else z) = z from fun y z => le_f (a := 3) (by omega) (by omega), ldI_n (by omega) (by omega), jn_e, jn_e, hK, hK, show (3 : Int32) = nI 3 from rfl, pk_mul, nI_add, Nat.mul_comm u 3, ldI_n (by omega) (by omega), G1, nrow_at, hB]
      by_cases c1 : q u < 0
      · rw [if_pos (by rw [i32_lt, qv, l_0]; exact c1), decide_eq_false (show ¬ 0 ≤ q u by omega), Bool.false_and, Bool.or_false]
        cases hdB s q g u <;> rfl
      · rw [if_neg (by rw [i32_lt, qv, l_0]; exact c1), decide_eq_true (show 0 ≤ q u by omega), Bool.true_and]
        by_cases c2 : 0 < s (3 * u + g)
        · rw [show ∀ y z : Option Int32, (if nI (s (3 * u + g)) ≤ (0 : Int32) then y else z) = z from fun y z => le_f (b := 0) c2 (by omega), decide_eq_true c2]
          cases hdB s q g u <;> rfl
        · rw [show ∀ y z : Option Int32, (if nI (s (3 * u + g)) ≤ (0 : Int32) then y else z) = y from fun y z => le_t (b := 0) (by omega) (by omega), decide_eq_false c2, Bool.or_false]
          cases hdB s q g u <;> rfl
    · intro K2
      unfold f_X3_hidden_l14
      dsimp only
      rw [show ∀ y z : Option Int32, (if (3 : Int32) ≤ nI 3 then y else z) = y from fun y z => le_t (a := 3) (Nat.le_refl _) (by omega)]
      unfold f_X3_hidden_j58 f_X3_hidden_j70
      dsimp only
      rw [jn_e, oB_0]
      show _ = K (hdN' s q g ||| (if hdB s q g 3 = true then 0 else (1 : Int32) <<< (nI g &&& 31)), nI (g + 1))
      cases hdB s q g 3
      · rw [if_neg (by decide), if_neg (by decide)]
        dsimp only
        rw [lt_e, lt_e, nI_1]
      · rw [if_pos rfl, if_pos rfl]
        dsimp only
        rw [lt_e, lt_e, nI_1]
  · intro K
    unfold f_X3_hidden_l4
    dsimp only
    rw [show ∀ y z : Option Int32, (if (3 : Int32) ≤ nI 3 then y else z) = y from fun y z => le_t (a := 3) (Nat.le_refl _) (by omega)]
theorem m_hidden {s : Nat → Nat} {q : Nat → Int} {τ : Hp} (hG : Gg s q (τ.1 137) (τ.1 138)) : f_X12_hidden τ = some (hdN' s q 3) := by
  obtain ⟨G1, G2, G3, G4⟩ := hG
  unfold f_X12_hidden
  refine lp_d (Q := fun y => y = some (hdN' s q 3)) 3 (fun g => (hdN' s q g, nI g)) ?_ ?_ (by omega)
  · intro g hg K
    unfold f_X12_hidden_l4
    dsimp only
    rw [show ∀ y z : Option Int32, (if (3 : Int32) ≤ nI g then y else z) = z from fun y z => le_f (a := 3) (by omega) (by omega), jn_e]
    refine lp_d (Q := fun y => y = K (hdN' s q (g + 1), nI (g + 1))) 3 (fun u => (oB (hdB s q g u), nI u)) ?_ ?_ (by omega)
    · intro u hu K2
      have qv : (τ.1 138 u).toInt = q u := G3 u
      have hs9 := G2 (3 * u + g)
      have hK : ∀ t : Int32, f_X12_hidden_j53 (oB (hdB s q g u), nI u) K2 t = K2 (t, nI (u + 1)) := fun t => by
        unfold f_X12_hidden_j53
        rw [lt_e, nI_1]
      have hB : hdB s q g (u + 1) = (hdB s q g u || (decide (0 ≤ q u) && decide (0 < s (3 * u + g)))) := rfl
      unfold f_X12_hidden_l14 f_X12_hidden_j48 f_X12_hidden_j52
      dsimp only
      rw [show ∀ y z : Option Int32, (if (3 : Int32) ≤ nI u then y else z) = z from fun y z => le_f (a := 3) (by omega) (by omega), jn_e, jn_e, ldI_n (by omega) (by omega), jn_e, hK, hK, show (3 : Int32) = nI 3 from rfl, pk_mul, nI_add, ldI_n (by omega) (by omega), G1, nrow_at, hB, oB_0]
      cases hdB s q g u
      · rw [if_neg (by decide), Bool.false_or]
        by_cases c1 : q u < 0
        · rw [if_pos (by rw [i32_lt, qv, l_0]; exact c1), decide_eq_false (show ¬ 0 ≤ q u by omega), Bool.false_and]; rfl
        · rw [if_neg (by rw [i32_lt, qv, l_0]; exact c1), decide_eq_true (show 0 ≤ q u by omega), Bool.true_and]
          by_cases c2 : 0 < s (3 * u + g)
          · rw [show ∀ y z : Option Int32, (if nI (s (3 * u + g)) ≤ (0 : Int32) then y else z) = z from fun y z => le_f (b := 0) c2 (by omega), decide_eq_true c2]; rfl
          · rw [show ∀ y z : Option Int32, (if nI (s (3 * u + g)) ≤ (0 : Int32) then y else z) = y from fun y z => le_t (b := 0) (by omega) (by omega), decide_eq_false c2]; rfl
      · rw [if_pos rfl, Bool.true_or]; rfl
    · intro K2
      unfold f_X12_hidden_l14
      dsimp only
      rw [show ∀ y z : Option Int32, (if (3 : Int32) ≤ nI 3 then y else z) = y from fun y z => le_t (a := 3) (Nat.le_refl _) (by omega)]
      unfold f_X12_hidden_j60 f_X12_hidden_j72
      dsimp only
      rw [jn_e, oB_0]
      show _ = K (hdN' s q g ||| (if hdB s q g 3 = true then 0 else (1 : Int32) <<< (nI g &&& 31)), nI (g + 1))
      cases hdB s q g 3
      · rw [if_neg (by decide), if_neg (by decide)]
        dsimp only
        rw [lt_e, lt_e, nI_1]
      · rw [if_pos rfl, if_pos rfl]
        dsimp only
        rw [lt_e, lt_e, nI_1]
  · intro K
    unfold f_X12_hidden_l4
    dsimp only
    rw [show ∀ y z : Option Int32, (if (3 : Int32) ≤ nI 3 then y else z) = y from fun y z => le_t (a := 3) (Nat.le_refl _) (by omega)]
theorem st_trueGas (n : Nat) (a b : Int32) {σ τ : Hp} (h : RR n σ τ) : Ok32 n (f_X11_trueGas a b σ) (f_X12_trueGas a b τ) := by
  obtain ⟨s1, s2, s3, s4⟩ := h.2.2.2.2.2.2.1
  obtain ⟨s, q, hGc⟩ : ∃ s q, Gg s q (σ.1 68) (σ.1 69) := ⟨fun k => (σ.1 68 k).toInt.toNat, fun g => (σ.1 69 g).toInt, nrow_of (fun k => (s3 k).1), fun k => (by show (σ.1 68 k).toInt.toNat ≤ 9; have := (s3 k).2; omega), fun _ => rfl, fun g => ⟨(s4 g).1, (s4 g).2⟩⟩
  have hGm : Gg s q (τ.1 137) (τ.1 138) := by rw [← s1, ← s2]; exact hGc
  unfold f_X11_trueGas f_X12_trueGas
  obtain ⟨TM, hTM⟩ : ∃ TM, TM = (jn (f_X12_trueGas_j260 b τ) fun k260 => lp (f_X12_trueGas_l64 a b τ k260) FU ((0 : Int32), (-9 : Int32), (-9 : Int32), (0 : Int32))) := ⟨_, rfl⟩
  rw [← hTM, k_within, k_isIn, l_8, d_0, show (7 : Int64).toInt = 7 from rfl, show (7 : Int) + 1 = 8 from rfl]
  by_cases h1 : 0 ≤ b.toInt ∧ b.toInt < 8
  · rw [if_pos h1, if_pos h1, jn_e, z1z, z1z, k_out, d_0, d_9]
    unfold f_X11_trueGas_j16 f_X11_trueGas_j25 f_X11_trueGas_j36 f_X11_trueGas_j71
    rw [jn_e]
    simp only [jn_e, i32_le, l_0, l_9]
    by_cases h2 : a.toInt < 0
    · rw [if_pos h2, if_neg (by omega)]
      simp only [rf_4, cl_s, n4z, ite_self]
      rw [e_no4, cl_s]
      exact ok_ref h
    · rw [if_neg h2, if_pos (by omega)]
      by_cases h3 : 9 < a.toInt
      · rw [if_pos h3, if_neg (by omega)]
        simp only [rf_6, cl_s, n6z]
        rw [e_no6, cl_s]
        exact ok_ref h
      · rw [if_neg h3, if_pos (by omega)]
        simp only [rf_0, cl_s, z0z]
        have ea := n_of (a := a) (by omega)
        generalize hD : a.toInt.toNat = D at ea
        subst ea
        have hD9 : D ≤ 9 := by omega
        have eb := n_of h1.1
        generalize hW : b.toInt.toNat = w at eb
        subst eb
        have hw7 : w < 8 := by omega
        by_cases h7 : w = 7
        · subst h7
          rw [if_pos (show nI 7 = (7 : Int32) from rfl), if_pos (show nI 7 = (7 : Int32) from rfl), c_hidden hGc, m_hidden hGm, cr_s, cr_s]
          exact ⟨_, σ, τ, rfl, rfl, RR_same h⟩
        · have hne : ¬ nI w = (7 : Int32) := fun g => h7 ((nI_eq (b := 7) (by omega) (by omega)).1 g)
          rw [if_neg hne, if_neg hne]
          obtain ⟨r, σ', c1, c2, c3⟩ := c_possible hGc hD9 (show w ≤ 6 by omega)
          obtain ⟨r', m1, m2⟩ := m_true hGm hD9 (show w ≤ 6 by omega)
          rw [c1, cl_s, hTM, jn_e, m1]
          have hr : r = r' := Int32.toInt_inj.1 (by rw [c3, m2])
          rw [hr]
          exact ⟨r', σ', τ, rfl, rfl, RR_same (RR_keep h (KC_fr (by decide) c2) (KM_0 τ) (fun a ha => c2 a (fun hb => by revert ha hb; revert a; decide)) (fun _ _ => rfl) rfl)⟩
  · rw [if_neg h1, if_neg h1, jn_e, z0z, z0z, e_no2, cl_s]
    unfold f_X11_trueGas_j16 f_X11_trueGas_j25 f_X11_trueGas_j36
    simp only [jn_e, rf_2, cl_s, n2z, ite_self]
    exact ok_ref h
