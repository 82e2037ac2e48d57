def rell (r : Nat) : Int32 := if r = 0 then 60 else if r = 1 then 61 else 62
theorem sFact_n {c : Int32} (h : ¬ sFact c = -1) : ∃ f, f < 5 ∧ c = lett f ∧ sFact c = nI f := by
  unfold sFact at h ⊢
  by_cases h0 : c = 114
  · exact ⟨0, by omega, h0, by rw [if_pos h0]; rfl⟩
  rw [if_neg h0] at h ⊢
  by_cases h1 : c = 119
  · exact ⟨1, by omega, h1, by rw [if_pos h1]; rfl⟩
  rw [if_neg h1] at h ⊢
  by_cases h2 : c = 118
  · exact ⟨2, by omega, h2, by rw [if_pos h2]; rfl⟩
  rw [if_neg h2] at h ⊢
  by_cases h3 : c = 112
  · exact ⟨3, by omega, h3, by rw [if_pos h3]; rfl⟩
  rw [if_neg h3] at h ⊢
  by_cases h4 : c = 116
  · exact ⟨4, by omega, h4, by rw [if_pos h4]; rfl⟩
  rw [if_neg h4] at h
  exact absurd rfl h
theorem sRel_n {c : Int32} (h : ¬ sRel c = -1) : ∃ r, r < 3 ∧ c = rell r ∧ sRel c = nI r := by
  unfold sRel at h ⊢
  by_cases h0 : c = 60
  · exact ⟨0, by omega, h0, by rw [if_pos h0]; rfl⟩
  rw [if_neg h0] at h ⊢
  by_cases h1 : c = 61
  · exact ⟨1, by omega, h1, by rw [if_pos h1]; rfl⟩
  rw [if_neg h1] at h ⊢
  by_cases h2 : c = 62
  · exact ⟨2, by omega, h2, by rw [if_pos h2]; rfl⟩
  rw [if_neg h2] at h
  exact absurd rfl h
theorem KM_rd (τ : Hp) (j : Nat) (hj : j = 43 ∨ j = 44 ∨ j = 45) (v : Int32) : KM τ (sI τ 86 j v) := by
  refine ⟨fun a ha => ?_, fun i hi => ?_⟩
  · rw [sI_1, if_neg (show ¬ a = 86 from fun e => by subst e; revert ha; decide)]
  · show upd (τ.1 86) j v i = _
    exact pk_un (fun e => by subst e; rcases hj with rfl | rfl | rfl <;> revert hi <;> decide)
theorem PM_keep {τ τ' : Hp} {pl : Nat → Nat → Nat} (h : PM τ pl) (e : ∀ a, a ∈ [88, 89, 90, 91, 92, 93, 94, 95, 96, 97, 98, 104, 105] → τ'.1 a = τ.1 a) (e2 : ∀ j, j ∈ [20, 21, 22] → τ'.1 86 j = τ.1 86 j) : PM τ' pl := by
  unfold PM
  rw [e 104 (by decide), e 105 (by decide), e 88 (by decide), e 89 (by decide), e 90 (by decide), e 91 (by decide), e 92 (by decide), e 93 (by decide), e 94 (by decide), e 95 (by decide), e 96 (by decide), e 97 (by decide), e 98 (by decide), e2 20 (by decide), e2 21 (by decide), e2 22 (by decide)]
  exact h
theorem RW_keep {mo : Nat} {σ τ τ' : Hp} (h : RW mo σ τ) (e : ∀ a, a ∈ [88, 89, 90, 91, 92, 93, 94, 95, 96, 97, 98, 99, 104, 105, 116, 117, 119] → τ'.1 a = τ.1 a) (e2 : ∀ j, j ∈ [20, 21, 22, 23, 38] → τ'.1 86 j = τ.1 86 j) : RW mo σ τ' := by
  obtain ⟨pl, x, k, ⟨hB, hC, hM⟩, m, ⟨g1, g2, l1⟩, ⟨u0, u1, u2⟩, hU⟩ := h
  refine ⟨pl, x, k, ⟨hB, hC, PM_keep hM (fun a ha => e a (by revert ha; revert a; decide)) (fun j hj => e2 j (by revert hj; revert j; decide))⟩, m, ⟨g1, by rw [e 99 (by decide)]; exact g2, l1⟩, ⟨u0, u1, by rw [e2 23 (by decide)]; exact u2⟩, ?_⟩
  rw [e 116 (by decide), e 117 (by decide), e 119 (by decide), e2 38 (by decide)]
  exact hU
theorem RW_rd {mo : Nat} {σ ρ : Hp} (h : RW mo σ ρ) (v : Int32) : RW mo σ (sI ρ 86 43 v) :=
  RW_keep h (fun a ha => by rw [sI_1, if_neg (show ¬ a = 86 from fun e => by subst e; revert ha; decide)]) (fun j hj => by show upd (ρ.1 86) 43 v j = _; exact pk_un (fun e => by subst e; revert hj; decide))
/-- a compare of numbers, in both -/
theorem rel_e {c : Int32} {v N rl : Nat} (hv : v < 2147483648) (hN : N < 2147483648) (hr : rl < 3) (h9 : c >>> ((9 : Int32) &&& 31) &&& 3 = nI rl) (h11 : c >>> ((11 : Int32) &&& 31) = nI N) : ∃ B, f_X8_compares_j144 c (nI v) = some (oB B) ∧ ∀ (v1 : Int32) (t3 t6 : Int32 × Hp), f_X12_fact v1 t3.1 t6.2 = some (nI v) → t6.1 = nI N → f_X12_compared_j103 v1 t3 (rell rl) t6 = some (oB B, t6.2) := by
  match rl, hr, h9 with
  | 0, _, h9 =>
    refine ⟨decide (v < N), ?_, fun v1 t3 t6 h1 h2 => ?_⟩
    · unfold f_X8_compares_j144 f_X8_compares_j196 f_X8_compares_j209 f_X8_compares_j222
      rw [lt_e, h9, h11, jn_e, jn_e, jn_e]
      rw [if_pos (show nI 0 = (0 : Int32) from rfl)]
      by_cases e : v < N
      · rw [le_f e (by omega), decide_eq_true e]; rfl
      · rw [le_t (by omega) (by omega), decide_eq_false e]; rfl
    · unfold f_X12_compared_j103 f_X12_compared_j157 f_X12_compared_j156 f_X12_compared_j152
      rw [h1, cr_s, jn_e, jn_e, jn_e, h2]
      rw [if_pos (show rell 0 = (60 : Int32) from rfl)]
      by_cases e : v < N
      · rw [le_f e (by omega), decide_eq_true e]; rfl
      · rw [le_t (by omega) (by omega), decide_eq_false e]; rfl
  | 1, _, h9 =>
    refine ⟨decide (v = N), ?_, fun v1 t3 t6 h1 h2 => ?_⟩
    · unfold f_X8_compares_j144 f_X8_compares_j196 f_X8_compares_j209 f_X8_compares_j222
      rw [lt_e, h9, h11, jn_e, jn_e, jn_e]
      rw [if_neg (by decide), if_pos (show nI 1 = (1 : Int32) from rfl)]
      by_cases e : v = N
      · rw [if_pos (congrArg nI e), decide_eq_true e]; rfl
      · rw [if_neg (fun g => e ((nI_eq (by omega) (by omega)).1 g)), decide_eq_false e]; rfl
    · unfold f_X12_compared_j103 f_X12_compared_j157 f_X12_compared_j156 f_X12_compared_j152
      rw [h1, cr_s, jn_e, jn_e, jn_e, h2]
      rw [if_neg (by decide), if_neg (by decide)]
      by_cases e : v = N
      · rw [if_pos (congrArg nI e), decide_eq_true e]; rfl
      · rw [if_neg (fun g => e ((nI_eq (by omega) (by omega)).1 g)), decide_eq_false e]; rfl
  | 2, _, h9 =>
    refine ⟨decide (N < v), ?_, fun v1 t3 t6 h1 h2 => ?_⟩
    · unfold f_X8_compares_j144 f_X8_compares_j196 f_X8_compares_j209 f_X8_compares_j222
      rw [lt_e, h9, h11, jn_e, jn_e, jn_e]
      rw [if_neg (by decide), if_neg (by decide)]
      by_cases e : N < v
      · rw [le_f e (by omega), decide_eq_true e]; rfl
      · rw [le_t (by omega) (by omega), decide_eq_false e]; rfl
    · unfold f_X12_compared_j103 f_X12_compared_j157 f_X12_compared_j156 f_X12_compared_j152
      rw [h1, cr_s, jn_e, jn_e, jn_e, h2]
      rw [if_neg (by decide), if_pos (show rell 2 = (62 : Int32) from rfl)]
      by_cases e : N < v
      · rw [le_f e (by omega), decide_eq_true e]; rfl
      · rw [le_t (by omega) (by omega), decide_eq_false e]; rfl
  | rl + 3, hr, _ => exact absurd hr (by omega)
theorem tx_lt {t : Nat → Int32} {L p : Nat} (h : tx t L p ≠ -1) : p < L := by
  apply Nat.lt_of_not_le
  intro hh
  unfold tx at h
  rw [if_neg (by omega)] at h
  exact h rfl
theorem dg_lt {t : Nat → Int32} {L p : Nat} (h : 48 ≤ (tx t L p).toInt ∧ (tx t L p).toInt ≤ 57) : p < L :=
  tx_lt (fun e => by rw [e] at h; exact absurd h.1 (by decide))
theorem FU_5 : 5 < FU := by rw [FU_e]; omega
theorem m_cmp2 {mo : Nat} {σ ρ : Hp} (h : RW mo σ ρ) {r L p q f w : Nat} {c : List Int32} (hr : r < 16) (hL : ρ.1 117 r = nI L) (hL40 : L ≤ 40) (hf : f < 5) (hw : w < 10) (hs : sCmp2 (txt ρ r) L (nI f) (nI w) p = (q, some c)) : p < q ∧ q ≤ L ∧ ∃ c1, c = [c1] ∧ c1 &&& 3 = 3 ∧ (¬ (48 ≤ (tx (txt ρ r) L q).toInt ∧ (tx (txt ρ r) L q).toInt ≤ 57) → f_X12_compared_j43 (nI r) (lett f) (nI w, sI ρ 86 43 (nI p)) = some (oB (evC mo σ c1), sI ρ 86 43 (nI q))) := by
  unfold sCmp2 at hs
  by_cases h1 : sRel (tx (txt ρ r) L p) = -1
  · rw [if_pos h1] at hs; exact (no_pn hs).elim
  rw [if_neg h1] at hs
  obtain ⟨rl, r1, r2, r3⟩ := sRel_n h1
  by_cases h2 : 48 ≤ (tx (txt ρ r) L (p + 1)).toInt ∧ (tx (txt ρ r) L (p + 1)).toInt ≤ 57
  · have hp1 := dg_lt h2
    rw [if_pos h2] at hs
    obtain ⟨d, d1, d2⟩ := dig_n h2
    obtain ⟨q', N, n1, n2, n3, n4⟩ := sNum_n (t := txt ρ r) (L := L) 4 (p + 2) d 10 d1
    rw [d2, n1] at hs
    have n2' : N < 100000 := n2
    obtain ⟨e1, e2⟩ := Prod.mk.inj hs
    have e3 := Option.some.inj e2
    dsimp only at e1 e3
    subst e1
    rw [r3, pack_e hf hw r1 (by omega)] at e3
    refine ⟨by omega, n4 (by omega), _, e3.symm, ?_, fun hq => ?_⟩
    · rw [show ∀ x : Int32, x &&& 3 = x &&& 3 from fun _ => rfl]
      have : nI (3 + 4 * f + 32 * w + 512 * rl + 2048 * N) &&& 3 = nI ((3 + 4 * f + 32 * w + 512 * rl + 2048 * N) % 4) := pk_andN (by omega) 2 rfl
      rw [this, show (3 + 4 * f + 32 * w + 512 * rl + 2048 * N) % 4 = 3 by omega]
      rfl
    · obtain ⟨k5, k2, k9, k11⟩ := unpack (v := N) hf hw r1 (by omega)
      obtain ⟨v, v1, v2, v3⟩ := fact_e (RW_rd h (nI q')) hf hw
      obtain ⟨B, b1, b2⟩ := rel_e v1 (by omega) r1 k9 k11
      have hev := evC_e h (nI (3 + 4 * f + 32 * w + 512 * rl + 2048 * N))
      rw [v2 _ k5 k2, b1] at hev
      have hS := m_sign (ρ := sI ρ 86 43 (nI p)) hr (show (sI ρ 86 43 (nI p)).1 117 r = nI L from hL) hL40 rfl (show p < 1000000 by omega)
      have hs5 : sNum (txt ρ r) L 5 (p + 1) 0 = (q', nI N) := by
        unfold sNum
        rw [if_pos h2, d2, show (0 : Int32) * 10 + nI d = nI d by rw [n_0, n_10, pk_mul, nI_add, Nat.zero_mul, Nat.zero_add]]
        exact n1
      unfold f_X12_compared_j43
      dsimp only
      rw [hS, cr_s, lt_e, jn_e, show (sI ρ 86 43 (nI p)).1 86 43 = nI p from rfl, nI_1, sI_sI, txt_keep, r2]
      rw [m_num hr hL hL40 (f_X12_compared_j103 (lett f) (nI w, sI ρ 86 43 (nI p)) (rell rl)) 5 (p + 1) 0 FU FU_5 (by omega) hs5 hq, b2 (lett f) (nI w, sI ρ 86 43 (nI p)) (nI N, sI ρ 86 43 (nI q')) v3 rfl]
      exact congrArg (fun y : Option Int32 => y.bind fun z => some (z, sI ρ 86 43 (nI q'))) hev
  · rw [if_neg h2] at hs; exact (no_pn hs).elim
theorem m_cmp {mo : Nat} {σ ρ : Hp} (h : RW mo σ ρ) {r L p q : Nat} {c : List Int32} (hr : r < 16) (hL : ρ.1 117 r = nI L) (hL40 : L ≤ 40) (hp : ρ.1 86 43 = nI p) (hs : sCmp (txt ρ r) L p = (q, some c)) : p < q ∧ q ≤ L ∧ ∃ c1, c = [c1] ∧ c1 &&& 3 = 3 ∧ (¬ (48 ≤ (tx (txt ρ r) L q).toInt ∧ (tx (txt ρ r) L q).toInt ≤ 57) → f_X12_compared (nI r) ρ = some (oB (evC mo σ c1), sI ρ 86 43 (nI q))) := by
  unfold sCmp at hs
  by_cases h1 : sFact (tx (txt ρ r) L p) = -1
  · rw [if_pos h1] at hs; exact (no_pn hs).elim
  rw [if_neg h1] at hs
  obtain ⟨f, f1, f2, f3⟩ := sFact_n h1
  have hp1 : p < L := tx_lt (fun e => h1 (by rw [e]; rfl))
  have hS := m_sign hr hL hL40 hp (show p < 1000000 by omega)
  rw [f3] at hs
  by_cases h4 : f = 4
  · subst h4
    rw [if_pos (show nI 4 = (4 : Int32) from rfl)] at hs
    obtain ⟨g1, g2, c1, g3, g4, g5⟩ := m_cmp2 h hr hL hL40 f1 (show 0 < 10 by omega) hs
    refine ⟨by omega, g2, c1, g3, g4, fun hq => ?_⟩
    unfold f_X12_compared
    rw [hS, cr_s, f2, lt_e, jn_e, if_pos (show lett 4 = (116 : Int32) from rfl), hp, nI_1]
    exact g5 hq
  · rw [if_neg (show ¬ nI f = (4 : Int32) from fun e => h4 ((nI_eq (b := 4) (by omega) (by omega)).1 e))] at hs
    by_cases h2 : 48 ≤ (tx (txt ρ r) L (p + 1)).toInt ∧ (tx (txt ρ r) L (p + 1)).toInt ≤ 57
    · rw [if_pos h2] at hs
      obtain ⟨d, d1, d2⟩ := dig_n h2
      rw [d2] at hs
      obtain ⟨g1, g2, c1, g3, g4, g5⟩ := m_cmp2 h hr hL hL40 f1 d1 hs
      refine ⟨by omega, g2, c1, g3, g4, fun hq => ?_⟩
      have hS2 := m_sign (ρ := sI ρ 86 43 (nI (p + 1))) hr (show (sI ρ 86 43 (nI (p + 1))).1 117 r = nI L from hL) hL40 rfl (show p + 1 < 1000000 by omega)
      unfold f_X12_compared
      rw [hS, cr_s, f2, lt_e, jn_e, if_neg (show ¬ lett f = (116 : Int32) by rcases (show f = 0 ∨ f = 1 ∨ f = 2 ∨ f = 3 by omega) with rfl | rfl | rfl | rfl <;> decide), hp, nI_1, hS2, cr_s, lt_e, lt_e, show (sI ρ 86 43 (nI (p + 1))).1 86 43 = nI (p + 1) from rfl, nI_1, sI_sI, txt_keep, d2]
      exact g5 hq
    · rw [if_neg h2] at hs; exact (no_pn hs).elim
