/-! ===== the hunt: the model's sets; both counts ===== -/
theorem m_meets {h : Hd} {τ : Hp} (hB : HB h) (hM : HM τ h) {m i : Nat} (hm : m < 256) (hi : i < h.T) (k : Int32 → Option Int32) : lp (f_X12_fits_l15 (nI m) τ (nI i) k) FU ((0 : Int32), (0 : Int32)) = k (oB (mtN h m i h.S)) := by
  have hS := hB.S
  have hT := hB.T
  refine lp_d (Q := fun r => r = k (oB (mtN h m i h.S))) h.S (fun j => (oB (mtN h m i j), nI j)) ?_ ?_ (by omega)
  · intro j hj K
    have hp := hB.P j
    have hd := hB.D (h.P j)
    have hx := hB.X j
    have hg := hB.G i
    unfold f_X12_fits_l15 f_X12_fits_j77 f_X12_fits_j72 f_X12_fits_j76
    dsimp only
    rw [hM.S, le_f hj (by omega)]
    simp only [jn_e, lt_e, oB_0, nI_1]
    show _ = K (oB (mtN h m i j || (m.testBit (h.P j) && hitN h i j)), _)
    cases hb : mtN h m i j
    · simp only [Bool.false_eq_true, if_false, Bool.false_or]
      rw [ldI_n (by omega) (by omega), hM.P, bit1 (by omega) (by omega)]
      cases hc : m.testBit (h.P j)
      · simp only [Bool.false_eq_true, if_false, Bool.false_and]; rfl
      · simp only [if_true, Bool.true_and]
        rw [ldI_n (by omega) (by omega), ldI_n (by omega) (by omega), hM.X, hM.P, ldI_n (by omega) (by omega), hM.D, ldI_n (by omega) (by omega), hM.G, nI_add]
        unfold hitN
        by_cases e : h.X j + h.D (h.P j) = h.G i
        · rw [e, if_pos rfl, decide_eq_true rfl]; rfl
        · rw [if_neg (fun e1 => e (by have := congrArg Int32.toInt e1; rw [nI_toInt (by omega), nI_toInt (by omega)] at this; omega)), decide_eq_false e]; rfl
    · simp only [if_true, Bool.true_or]; rfl
  · intro K
    unfold f_X12_fits_l15
    dsimp only
    rw [hM.S, le_t (Nat.le_refl _) (by omega)]
theorem m_fits {h : Hd} {τ : Hp} (hB : HB h) (hM : HM τ h) {m : Nat} (hm : m < 256) : f_X12_fits (nI m) τ = some (oB (okN h m h.T)) := by
  have hT := hB.T
  unfold f_X12_fits
  refine lp_e (Q := fun r => r = some (oB (okN h m h.T))) h.T (fun i s => s = nI i ∧ okN h m i = true) ?_ ?_ 0 (Nat.zero_le _) (by omega) ⟨rfl, rfl⟩
  · rintro i s hi ⟨rfl, h1⟩ K
    unfold f_X12_fits_l2 f_X12_fits_j84
    rw [hM.T, le_f hi (by omega), jn_e, m_meets hB hM hm hi, ldI_n (by omega) (by omega), hM.W, lt_e, nI_1, ckZ_0]
    by_cases e : (mtN h m i h.S == decide (h.W i = 1)) = true
    · rw [if_pos ((oB_W (hB.W i) _).2 e)]
      refine Or.inr ⟨nI (i + 1), ⟨rfl, ?_⟩, rfl⟩
      show (okN h m i && _) = true
      rw [h1, e]; rfl
    · rw [if_neg (fun h1 => e ((oB_W (hB.W i) _).1 h1))]
      refine Or.inl ?_
      have h2 : okN h m (i + 1) = false := by
        show (okN h m i && _) = false
        rw [h1, Bool.eq_false_iff.2 e]; rfl
      have h3 := okN_f h2 (h.T - (i + 1))
      rw [show i + 1 + (h.T - (i + 1)) = h.T by omega] at h3
      rw [h3]; rfl
  · rintro s ⟨rfl, h1⟩ K
    unfold f_X12_fits_l2
    rw [hM.T, le_t (Nat.le_refl _) (by omega), h1, ckZ_1]
    rfl
theorem m_bits {m : Nat} (hm : m < 256) : f_X12_bits (nI m) = some (nI (pcN m 16)) := by
  have e : pcN m 31 = pcN m 16 := by rw [pc_st (m := m) (P := 8) 31 (by omega) (fun j hj => tb_big (b := 8) hm hj), pc_st (m := m) (P := 8) 16 (by omega) (fun j hj => tb_big (b := 8) hm hj)]
  rw [← e]
  unfold f_X12_bits
  refine pc_loop (m := m) (P := 31) (by omega) ?_ ?_
  · intro k hk K
    unfold f_X12_bits_l4
    dsimp only
    rw [show ∀ x y : Option Int32, (if (31 : Int32) ≤ nI k then x else y) = y from fun x y => le_f (b := k) (a := 31) hk (by omega), lt_e, lt_e, nI_1, bitC (by omega) (by omega)]
    show _ = K (nI (pcN m k + (if m.testBit k then 1 else 0)), nI (k + 1))
    cases m.testBit k
    · show K (nI _ + 0, _) = K (nI _, _)
      rw [Int32.add_zero]
      rfl
    · simp only [if_true, nI_1]
  · intro K
    unfold f_X12_bits_l4
    dsimp only
    rw [show (31 : Int32) = nI 31 from rfl, le_t (Nat.le_refl _) (by omega)]
/-- which sets count -/
def fitN (h : Hd) (m : Nat) : Bool := decide (pcN m 16 ≤ 2) && okN h m h.T
def ctNh (h : Hd) : Nat → Nat
  | 0 => 0
  | m + 1 => ctNh h m + (if fitN h m then 1 else 0)
def hvN (h : Hd) (p : Nat) : Nat → Nat
  | 0 => 0
  | m + 1 => hvN h p m + (if fitN h m && m.testBit p then 1 else 0)
theorem ctN_le (h : Hd) : ∀ m, ctNh h m ≤ m
  | 0 => Nat.le_refl _
  | m + 1 => by
    unfold ctNh
    have := ctN_le h m
    split <;> omega
theorem hvN_le (h : Hd) (p : Nat) : ∀ m, hvN h p m ≤ ctNh h m
  | 0 => Nat.le_refl _
  | m + 1 => by
    unfold hvN ctNh
    have := hvN_le h p m
    cases fitN h m
    · simp only [Bool.false_and, Bool.false_eq_true, if_false]; omega
    · simp only [Bool.true_and, if_true]
      split <;> omega
theorem le2 {α : Type} (h : Hd) (m : Nat) (x y : α) : (if (2 : Int32) < nI (pcN m 16) then x else y) = if pcN m 16 ≤ 2 then y else x := by
  have h16 : ∀ k, pcN m k ≤ k := fun k => by
    induction k with
    | zero => exact Nat.le_refl _
    | succ k ih => show pcN m k + (if m.testBit k then 1 else 0) ≤ k + 1; split <;> omega
  have := h16 16
  by_cases e : pcN m 16 ≤ 2
  · rw [if_pos e, if_neg]
    rw [n_2]
    exact fun hh => absurd (Int32.lt_iff_toInt_lt.1 hh) (by rw [nI_toInt (by omega), nI_toInt (by omega)]; omega)
  · rw [if_neg e, if_pos]
    rw [n_2]
    exact Int32.lt_iff_toInt_lt.2 (by rw [nI_toInt (by omega), nI_toInt (by omega)]; omega)
