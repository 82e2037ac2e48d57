/-! ===== true gases: the model ===== -/
theorem m_readsX {s : Nat → Nat} {τ : Hp} {g a b c : Nat} (h : τ.1 137 = nrow s) (hs : ∀ k, s k ≤ 9) (hg : g < 3) (ha : a ≤ 40) (hb : b ≤ 40) (hc : c ≤ 40) : f_X12_readsBy (nI g) (lN a) (lN b) (lN c) τ = some (nI (rdX s g a b c / 10)) := by
  have hr := rdX_le hs g ha hb hc
  have h0 := hs (3 * g)
  have h1 := hs (3 * g + 1)
  have h2 := hs (3 * g + 2)
  have hx : s (3 * g) * a + s (3 * g + 1) * b + s (3 * g + 2) * c = rdX s g a b c := rfl
  unfold f_X12_readsBy
  simp (disch := omega) only [n_1, n_2, n_3, pk_mul, nI_add, ldI_n, h, nrow_at, nI_l, lN_mul, lN_add, hx, L_10, dvJ_n, pk_lDiv]
  unfold f_X12_least f_X12_least_j15
  simp only [jn_e, lg_cmp_le, L_2G]
  rw [if_pos ((pk_lLE (by omega) (by omega)).2 (by omega)), lN_i]
  rfl
theorem tg_fits {s : Nat → Nat} {q : Nat → Int} {τ : Hp} {D a b c : Nat} (hG : Gg s q (τ.1 137) (τ.1 138)) (hD : D ≤ 9) (ha : a ≤ 40) (hb : b ≤ 40) (hc : c ≤ 40) (k172 : Int32 → Option (Int32 × Hp)) : lp (f_X12_trueGas_l103 (nI D) τ (nI a) (nI b) (nI c) k172) FU ((1 : Int32), (0 : Int32)) = k172 (oB (tgA s q D a b c 3)) := by
  obtain ⟨G1, G2, G3, G4⟩ := hG
  refine lp_d (Q := fun y => y = k172 (oB (tgA s q D a b c 3))) 3 (fun g => (oB (tgA s q D a b c g), nI g)) ?_ ?_ (by omega)
  · intro g hg K
    have hK : ∀ t, f_X12_trueGas_j164 (oB (tgA s q D a b c g), nI g) K t = K (t, nI (g + 1)) := fun t => by
      unfold f_X12_trueGas_j164
      rw [lt_e, nI_1]
    have q0 := G4 g
    have qv : (τ.1 138 g).toInt = q g := G3 g
    have hDi : (nI D).toInt = (D : Int) := nI_toInt (by omega)
    have hr := rdX_le G2 g ha hb hc
    have hXi : (nI (rdX s g a b c / 10)).toInt = ((rdX s g a b c / 10 : Nat) : Int) := nI_toInt (by omega)
    have hfB : tgA s q D a b c (g + 1) = (tgA s q D a b c g && tgB s q D g a b c) := rfl
    unfold f_X12_trueGas_l103 f_X12_trueGas_j163 f_X12_trueGas_j159
    dsimp only
    rw [show ∀ y z : Option (Int32 × Hp), (if (3 : Int32) ≤ nI g then y else z) = z from fun y z => le_f (a := 3) (by omega) (by omega), jn_e, jn_e, oB_0, hfB]
    simp only [hK]
    cases tgA s q D a b c g
    · rfl
    · rw [if_pos rfl, ldI_n (by omega) (by omega), jn_e, Bool.true_and]
      unfold tgB
      by_cases c1 : q g < 0
      · rw [if_pos (by rw [i32_lt, qv, l_0]; exact c1), decide_eq_true c1]; rfl
      · rw [if_neg (by rw [i32_lt, qv, l_0]; exact c1), decide_eq_false c1, Bool.false_or, nI_l (by omega), nI_l (by omega), nI_l (by omega), m_readsX G1 G2 hg ha hb hc, cr_s, ldI_n (by omega) (by omega), e_isIn, cr_s, i64_of, i64_of, i64_of, negI (by rw [hDi]; omega), hDi, subI (by rw [qv, hXi]; omega) (by rw [qv, hXi]; omega), qv, hXi]
        generalize ((rdX s g a b c / 10 : Nat) : Int) = X
        by_cases c2 : -(D : Int) ≤ X - q g ∧ X - q g ≤ D
        · rw [if_pos c2, if_neg (by decide), decide_eq_true (show q g - (D : Int) ≤ X by omega), decide_eq_true (show X ≤ q g + (D : Int) by omega)]; rfl
        · rw [if_neg c2, if_pos rfl]
          by_cases c3 : q g - (D : Int) ≤ X
          · rw [decide_eq_false (show ¬ X ≤ q g + (D : Int) by omega), Bool.and_false]; rfl
          · rw [decide_eq_false c3, Bool.false_and]; rfl
  · intro K
    unfold f_X12_trueGas_l103
    dsimp only
    rw [show ∀ y z : Option (Int32 × Hp), (if (3 : Int32) ≤ nI 3 then y else z) = y from fun y z => le_t (a := 3) (Nat.le_refl _) (by omega)]
def vw (w : Nat) : Nat := if w = 1 ∨ w = 4 then 0 else if w = 2 ∨ w = 5 then 1 else 2
/-- the model's count so far -/
def MI (F : Nat → Bool) (w k : Nat) (n low high : Int32) : Prop := n = nI (cnF F k) ∧ low.toInt = (if cnF F k = 0 then -9 else (mnF F (vv (vw w)) k : Int)) ∧ high.toInt = mxF F (vv (vw w)) k
theorem mn_41 {F : Nat → Bool} {v : Nat → Nat} : ∀ k, cnF F k = 0 → mnF F v k = 41
  | 0, _ => rfl
  | k + 1, h => by
    unfold cnF at h
    unfold mnF
    by_cases e : F k = true
    · rw [if_pos e] at h; omega
    · rw [if_neg e] at h ⊢
      exact mn_41 k (by omega)
theorem cn_t {F : Nat → Bool} {k : Nat} (h : F k = true) : cnF F (k + 1) = cnF F k + 1 := by
  show cnF F k + (if F k = true then 1 else 0) = _
  rw [if_pos h]
theorem cn_f {F : Nat → Bool} {k : Nat} (h : F k = false) : cnF F (k + 1) = cnF F k := by
  show cnF F k + (if F k = true then 1 else 0) = _
  rw [h]; rfl
theorem mn_t {F : Nat → Bool} {v : Nat → Nat} {k : Nat} (h : F k = true) : mnF F v (k + 1) = min (mnF F v k) (v k) := if_pos h
theorem mn_f {F : Nat → Bool} {v : Nat → Nat} {k : Nat} (h : F k = false) : mnF F v (k + 1) = mnF F v k := if_neg (by rw [h]; decide)
theorem mx_t {F : Nat → Bool} {v : Nat → Nat} {k : Nat} (h : F k = true) : mxF F v (k + 1) = max (mxF F v k) (v k) := if_pos h
theorem mx_f {F : Nat → Bool} {v : Nat → Nat} {k : Nat} (h : F k = false) : mxF F v (k + 1) = mxF F v k := if_neg (by rw [h]; decide)
theorem tg_step {F : Nat → Bool} {w k : Nat} {n low high : Int32} (hw : w ≤ 6) (hk : k < 68921) (h : MI F w k n low high) (K : Int32 × Int32 × Int32 × Int32 → Option (Int32 × Hp)) : ∃ n' low' high', f_X12_trueGas_j172 (nI w) (n, low, high, nI k) K (nI (k / 1681)) (nI (k / 41 % 41)) (nI (k % 41)) (oB (F k)) = K (n', low', high', nI (k + 1)) ∧ MI F w (k + 1) n' low' high' := by
  obtain ⟨h1, h2, h3⟩ := h
  have hK : ∀ t : Int32 × Int32 × Int32, f_X12_trueGas_j254 (n, low, high, nI k) K t = K (t.1, t.2.1, t.2.2, nI (k + 1)) := fun t => by
    unfold f_X12_trueGas_j254
    rw [lt_e, nI_1]
  have hcn := cn_le F k
  unfold f_X12_trueGas_j172
  dsimp only
  rw [jn_e, oB_0]
  cases hF : F k
  · rw [if_neg (by decide), hK]
    refine ⟨n, low, high, rfl, ?_, ?_, ?_⟩
    · rw [h1, cn_f hF]
    · rw [h2, cn_f hF, mn_f hF]
    · rw [h3, mx_f hF]
  · rw [if_pos rfl, jn_e, jn_e]
    have hvl := vvw_le (vw w) k hk
    have hx : ∀ G : Int32 → Option (Int32 × Hp), (if nI w = (1 : Int32) then f_X12_trueGas_j190 (nI (k / 1681)) G () else if nI w = (4 : Int32) then f_X12_trueGas_j190 (nI (k / 1681)) G () else jn (f_X12_trueGas_j205 (nI (k / 41 % 41)) G) fun k205 => if nI w = (2 : Int32) then k205 () else if nI w = (5 : Int32) then k205 () else G (nI (k % 41))) = G (nI (vv (vw w) k)) := fun G => by
      unfold f_X12_trueGas_j190 f_X12_trueGas_j205
      rw [jn_e]
      rcases (show w = 0 ∨ w = 1 ∨ w = 2 ∨ w = 3 ∨ w = 4 ∨ w = 5 ∨ w = 6 by omega) with rfl | rfl | rfl | rfl | rfl | rfl | rfl <;> rfl
    have hg : ∀ x : Nat, x ≤ 40 → ∃ low' high', f_X12_trueGas_j212 (n, low, high, nI k) (f_X12_trueGas_j254 (n, low, high, nI k) K) (nI x) = K (n + 1, low', high', nI (k + 1)) ∧ low'.toInt = (if cnF F k = 0 then (x : Int) else min (mnF F (vv (vw w)) k : Int) x) ∧ high'.toInt = max (mxF F (vv (vw w)) k) x := fun x hxl => by
      have hxi : (nI x).toInt = (x : Int) := nI_toInt (by omega)
      have h249 : ∀ l x' : Int32, f_X12_trueGas_j249 (n, low, high, nI k) (f_X12_trueGas_j254 (n, low, high, nI k) K) l x' = K (n + 1, l, x', nI (k + 1)) := fun l x' => by
        unfold f_X12_trueGas_j249
        rw [lt_e, hK]
      have h233 : ∀ l : Int32, ∃ high', f_X12_trueGas_j233 (n, low, high, nI k) (f_X12_trueGas_j254 (n, low, high, nI k) K) (nI x) l = K (n + 1, l, high', nI (k + 1)) ∧ high'.toInt = max (mxF F (vv (vw w)) k) x := fun l => by
        unfold f_X12_trueGas_j233
        dsimp only
        rw [jn_e, h249, h249]
        simp only [i32_le]
        rw [h3, hxi]
        split
        · exact ⟨high, rfl, by rw [h3]; omega⟩
        · exact ⟨nI x, rfl, by rw [hxi]; omega⟩
      unfold f_X12_trueGas_j212 f_X12_trueGas_j226
      dsimp only
      rw [jn_e, jn_e, h1]
      by_cases c0 : cnF F k = 0
      · rw [c0, if_pos (show nI 0 = 0 from rfl), if_pos rfl]
        obtain ⟨high', a1, a2⟩ := h233 (nI x)
        exact ⟨nI x, high', by rw [h1, c0] at a1; exact a1, hxi, a2⟩
      · rw [if_neg (nI_ne0 (by omega) (by omega)), if_neg c0]
        rw [if_neg c0] at h2
        simp only [i32_le]
        rw [h2, hxi]
        split
        · obtain ⟨high', a1, a2⟩ := h233 low
          exact ⟨low, high', by rw [h1] at a1; exact a1, by rw [h2]; omega, a2⟩
        · obtain ⟨high', a1, a2⟩ := h233 (nI x)
          exact ⟨nI x, high', by rw [h1] at a1; exact a1, by rw [hxi]; omega, a2⟩
    rw [hx]
    obtain ⟨low', high', g1, g2, g3⟩ := hg (vv (vw w) k) hvl
    refine ⟨n + 1, low', high', g1, ?_, ?_, ?_⟩
    · rw [h1, nI_1, cn_t hF]
    · rw [g2, cn_t hF, if_neg (show ¬ cnF F k + 1 = 0 by omega), mn_t hF]
      by_cases c0 : cnF F k = 0
      · rw [if_pos c0, mn_41 k c0]; omega
      · rw [if_neg c0]; omega
    · rw [g3, mx_t hF]
