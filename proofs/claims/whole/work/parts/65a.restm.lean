/-! ===== at rest: the model ===== -/
theorem lab_lt {pl : Nat → Nat → Nat} (hB : PB pl) {f : Nat → Nat} (h : LA pl f) {r : Nat} (hr : r < pl 1 0) : f r < 5 := by
  have hn := hB.1.1
  apply Nat.lt_of_not_le
  intro hh
  have := h r hr
  rw [tbT (rc_lt hB (by omega)) hh] at this
  cases this
def frK (l : List Nat) (σ σ' : Hp) : Prop := fr l σ σ' ∧ σ'.2 = σ.2
theorem frK_0 (l : List Nat) (σ : Hp) : frK l σ σ := ⟨fr_0 _ _, rfl⟩
theorem frK_s {l : List Nat} {σ σ' : Hp} {k j : Nat} {v : Int32} (hk : k ∈ l) (h : frK l σ σ') : frK l σ (sI σ' k j v) := ⟨fr_s hk h.1, h.2⟩
theorem frK_t {l : List Nat} {σ σ' σ'' : Hp} (h : frK l σ σ') (h' : frK l σ' σ'') : frK l σ σ'' := ⟨fr_t h.1 h'.1, h'.2.trans h.2⟩
theorem frK_m {l l' : List Nat} {σ σ' : Hp} (hl : ∀ a, a ∈ l → a ∈ l') (h : frK l σ σ') : frK l' σ σ' := ⟨fr_m hl h.1, h.2⟩
theorem m_parts {pl : Nat → Nat → Nat} (hB : PB pl) {τ : Hp} (hM : PM τ pl) : ∃ τ', f_X12_findParts τ = some τ' ∧ frK [129] τ τ' ∧ ∀ r, r < pl 1 0 → τ'.1 129 r = nI (lab pl 5 r) := by
  have hn := hB.1.1
  have hnp := hB.1.2.1
  have hom : pl 1 10 < 2 ^ 12 := hB.1.2.2.2.1
  unfold f_X12_findParts
  rw [jn_e]
  refine lp_h (Q := fun y => ∃ τ' : Hp, y = some τ' ∧ frK [129] τ τ' ∧ ∀ r, r < pl 1 0 → τ'.1 129 r = nI (lab pl 5 r)) (pl 1 0) (fun i ρ => frK [129] τ ρ ∧ ∀ r, r < i → ρ.1 129 r = nI r) ?_ ?_ (by omega) ⟨frK_0 _ _, fun r hr => absurd hr (by omega)⟩
  · rintro i ρ hi ⟨h1, h2⟩ K
    have hM' := PM_fr (l := [129]) (by decide) h1.1 hM
    have e20 : ρ.1 86 20 = nI (pl 1 0) := hM'.1.1
    refine ⟨sI ρ 129 i (nI i), ⟨frK_s (by decide) h1, fun r hr => ?_⟩, ?_⟩
    · show upd (ρ.1 129) i _ r = _
      rw [upd_at]
      by_cases e : r = i
      · rw [if_pos e, e]
      · rw [if_neg e]; exact h2 r (by omega)
    · unfold f_X12_findParts_l2
      dsimp only
      rw [e20, le_f hi (by omega), stI_n (by omega) (by omega), lt_e, nI_1]
  · rintro ρ ⟨h1, h2⟩ K
    have hM' := PM_fr (l := [129]) (by decide) h1.1 hM
    have e20 : ρ.1 86 20 = nI (pl 1 0) := hM'.1.1
    unfold f_X12_findParts_l2
    dsimp only
    rw [e20, le_t (Nat.le_refl _) (by omega)]
    unfold f_X12_findParts_j23
    refine lp_h (Q := fun y => ∃ τ' : Hp, y = some τ' ∧ frK [129] τ τ' ∧ ∀ r, r < pl 1 0 → τ'.1 129 r = nI (lab pl 5 r)) 5 (fun k ξ => frK [129] τ ξ ∧ ∀ r, r < pl 1 0 → ξ.1 129 r = nI (lab pl k r)) ?_ ?_ (by omega) ⟨h1, h2⟩
    · rintro k ξ hk ⟨g1, g2⟩ K2
      have hA := LA_lab hB k
      have hin : ∃ ζ, lp (f_X12_findParts_l32 (f_X12_findParts_j124 (nI k, ξ) K2)) FU ((0 : Int32), ξ) = K2 (nI (k + 1), ζ) ∧ frK [129] τ ζ ∧ ∀ r, r < pl 1 0 → ζ.1 129 r = nI (lab pl (k + 1) r) := by
        refine lp_h (Q := fun y => ∃ ζ : Hp, y = K2 (nI (k + 1), ζ) ∧ frK [129] τ ζ ∧ ∀ r, r < pl 1 0 → ζ.1 129 r = nI (lab pl (k + 1) r)) (pl 1 6) (fun p ζ => frK [129] τ ζ ∧ ∀ r, r < pl 1 0 → ζ.1 129 r = nI (prn pl (lab pl k) p r)) ?_ ?_ (by omega) ⟨g1, g2⟩
        · rintro p ζ hp ⟨l1, l2⟩ K3
          obtain ⟨b1, b2, b3, b4, b5⟩ := hB.2.2.2.2.2.2.1 p hp
          have hM2 := PM_fr (l := [129]) (by decide) l1.1 hM
          have e21 : ζ.1 86 21 = nI (pl 1 6) := hM2.1.2.1
          have e92 : ζ.1 92 p = nI (pl 7 p) := hM2.2.2.2.2.2.2.1 p hp
          have e93 : ζ.1 93 p = nI (pl 8 p) := hM2.2.2.2.2.2.2.2.1 p hp
          have e104 : ζ.1 104 p = bN (pl 1 10) p := hM2.1.2.2.2.1 p
          have hAp := LA_prn hB hA p (by omega)
          have q1 := lab_lt hB hAp b1
          have q2 := lab_lt hB hAp b2
          have hK : ∀ ρ', f_X12_findParts_j118 (nI p, ζ) K3 ρ' = K3 (nI (p + 1), ρ') := fun ρ' => by
            unfold f_X12_findParts_j118
            rw [lt_e, nI_1]
          have hst : ∀ r, prn pl (lab pl k) (p + 1) r = pst pl (prn pl (lab pl k) p) p r := fun r => rfl
          have hF : f_X12_findParts_l32 (f_X12_findParts_j124 (nI k, ξ) K2) K3 (nI p, ζ) = if opn pl p = true then K3 (nI (p + 1), sI (sI ζ 129 (pl 7 p) (nI (min (prn pl (lab pl k) p (pl 7 p)) (prn pl (lab pl k) p (pl 8 p))))) 129 (pl 8 p) (nI (min (prn pl (lab pl k) p (pl 7 p)) (prn pl (lab pl k) p (pl 8 p))))) else K3 (nI (p + 1), ζ) := by
            unfold f_X12_findParts_l32 f_X12_findParts_j99
            dsimp only
            rw [e21, le_f hp (by omega), ldI_n (by omega) (by omega), e92, ldI_n (by omega) (by omega), e93, ldI_n (by omega) (by omega), e104, jn_e, bN_0, hK, ldI_n (by omega) (by omega), l2 _ b1, ldI_n (by omega) (by omega), l2 _ b2, jn_e, ldI_n (by omega) (by omega), ldI_n (by omega) (by omega), l2 _ b1, l2 _ b2]
            unfold opn
            by_cases ho : (pl 1 10).testBit p = true
            · rw [if_pos ho, if_pos ho]
              by_cases hle : prn pl (lab pl k) p (pl 8 p) ≤ prn pl (lab pl k) p (pl 7 p)
              · rw [le_t hle (by omega), Nat.min_eq_right hle]
                dsimp only
                rw [stI_n (by omega) (by omega), stI_n (by omega) (by omega), hK]
              · rw [le_f (by omega) (by omega), Nat.min_eq_left (by omega)]
                dsimp only
                rw [stI_n (by omega) (by omega), stI_n (by omega) (by omega), hK]
            · rw [if_neg ho, if_neg ho]
          rw [hF]
          by_cases ho : opn pl p = true
          · rw [if_pos ho]
            refine ⟨_, ⟨frK_s (by decide) (frK_s (by decide) l1), fun r hr => ?_⟩, rfl⟩
            show upd (upd (ζ.1 129) (pl 7 p) _) (pl 8 p) _ r = _
            rw [hst]
            unfold pst
            rw [if_pos ho, upd_at, upd_at]
            by_cases c1 : r = pl 8 p
            · rw [if_pos c1, if_pos (Or.inr c1)]
            · rw [if_neg c1]
              by_cases c2 : r = pl 7 p
              · rw [if_pos c2, if_pos (Or.inl c2)]
              · rw [if_neg c2, if_neg (fun h => h.elim c2 c1)]
                exact l2 r hr
          · rw [if_neg ho]
            refine ⟨ζ, ⟨l1, fun r hr => ?_⟩, rfl⟩
            rw [hst]
            unfold pst
            rw [if_neg ho]
            exact l2 r hr
        · rintro ζ ⟨l1, l2⟩ K3
          have hM2 := PM_fr (l := [129]) (by decide) l1.1 hM
          have e21 : ζ.1 86 21 = nI (pl 1 6) := hM2.1.2.1
          refine ⟨ζ, ?_, l1, l2⟩
          unfold f_X12_findParts_l32 f_X12_findParts_j124
          dsimp only
          rw [e21, le_t (Nat.le_refl _) (by omega), lt_e, nI_1]
      obtain ⟨ζ, z1, z2, z3⟩ := hin
      refine ⟨ζ, ⟨z2, z3⟩, ?_⟩
      unfold f_X12_findParts_l25
      dsimp only
      rw [show ∀ y z : Option Hp, (if (5 : Int32) ≤ nI k then y else z) = z from fun y z => le_f (a := 5) (by omega) (by omega), jn_e]
      exact z1
    · rintro ξ ⟨g1, g2⟩ K2
      refine ⟨ξ, ?_, g1, g2⟩
      unfold f_X12_findParts_l25
      dsimp only
      rw [show ∀ y z : Option Hp, (if (5 : Int32) ≤ nI 5 then y else z) = y from fun y z => le_t (a := 5) (Nat.le_refl _) (by omega)]
theorem m_speedAt {pl : Nat → Nat → Nat} (hB : PB pl) {τ : Hp} (hM : PM τ pl) {os ov : Nat → Nat} {no S : Nat} (hno : no ≤ 6) (hov : ∀ j, j < no → ov j ≤ 9) {g r : Nat} (hg : g < 3) (hr : r < 5) (h130 : τ.1 130 r = nI (spO os ov S r no)) : f_X12_speedAt (nI r) (nI g) τ = some (nI (spA pl g os ov no S r)) := by
  have hP := hB.1.2.2.1
  have hom : pl 1 15 < 2 ^ 8 := hB.1.2.2.2.2
  have b1 := spO_le (os := os) (S := S) hov hr hno
  unfold f_X12_speedAt
  rw [ldI_n (by omega) (by omega), h130]
  have e : nI (spO os ov S r no) = nI (spP pl g r 0 + spO os ov S r no) := by
    rw [show spP pl g r 0 = 0 from rfl, Nat.zero_add]
  rw [e]
  refine lp_d (Q := fun y => y = some (nI (spA pl g os ov no S r))) (pl 1 11) (fun p => (nI (spP pl g r p + spO os ov S r no), nI p)) ?_ ?_ (by omega)
  · intro p hp K
    have e22 : τ.1 86 22 = nI (pl 1 11) := hM.1.2.2.1
    have e105 : τ.1 105 p = bN (pl 1 15) p := hM.1.2.2.2.2 p
    have e95 : τ.1 95 p = nI (pl 10 p) := hM.2.2.2.2.2.2.2.2.2.1 p hp
    have e96 : τ.1 96 (3 * p + g) = nI (pl 11 (3 * p + g)) := hM.2.2.2.2.2.2.2.2.2.2.1 (3 * p + g)
    have b10 := hB.2.2.2.2.2.2.2.1 p hp
    have hn := hB.1.1
    have hK : ∀ t, f_X12_speedAt_j56 (nI (spP pl g r p + spO os ov S r no), nI p) K t = K (nI (spP pl g r p + spO os ov S r no) + t, nI (p + 1)) := fun t => by
      unfold f_X12_speedAt_j56
      rw [lt_e, lt_e, nI_1]
    have hs : spP pl g r (p + 1) = spP pl g r p + (if (pl 1 15).testBit p = true ∧ pl 10 p = r then pl 11 (3 * p + g) else 0) := rfl
    unfold f_X12_speedAt_l10 f_X12_speedAt_j55
    dsimp only
    rw [e22, le_f hp (by omega), ldI_n (by omega) (by omega), e105, jn_e, jn_e, bN_0, hK, ldI_n (by omega) (by omega), e95, show (3 : Int32) = nI 3 from rfl, pk_mul, nI_add, ldI_n (by omega) (by omega), e96, hK, hs, show (0 : Int32) = nI 0 from rfl, nI_add, nI_add, Nat.add_zero]
    by_cases c1 : (pl 1 15).testBit p = true
    · rw [if_pos c1]
      by_cases c2 : pl 10 p = r
      · rw [if_pos (by rw [c2]), if_pos ⟨c1, c2⟩, Nat.add_right_comm]
      · rw [if_neg (fun h => c2 ((nI_eq (by omega) (by omega)).1 h)), if_neg (fun h => c2 h.2)]
        simp only [Nat.add_zero]
    · rw [if_neg c1, if_neg (fun h => c1 h.1)]
      simp only [Nat.add_zero]
  · intro K
    have e22 : τ.1 86 22 = nI (pl 1 11) := hM.1.2.2.1
    unfold f_X12_speedAt_l10
    dsimp only
    rw [e22, le_t (Nat.le_refl _) (by omega)]
    rfl
theorem clF_n {M : Nat} {sp : Nat → Nat} {n : Nat} (h : ∀ q, n ≤ q → M.testBit q = false) : ∀ k, n ≤ k → clF M sp k = clF M sp n
  | 0, hk => by rw [show n = 0 by omega]
  | k + 1, hk => by
    by_cases e : n = k + 1
    · rw [e]
    · rw [← clF_n h k (by omega)]
      show (clF M sp k && !(M.testBit k && decide (0 < sp k))) = clF M sp k
      rw [h k (by omega), Bool.false_and, Bool.not_false, Bool.and_true]
