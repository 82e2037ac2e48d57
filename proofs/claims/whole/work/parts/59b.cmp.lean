/-! ===== one compare, in both ===== -/
theorem pack_s : ∀ f, f < 5 → ∀ w, w < 10 → ∀ r, r < 3 → (3 ||| f * 4 ||| w * 32 ||| r * 512) = 3 + 4 * f + 32 * w + 512 * r := by decide +kernel
theorem pack_e {f w r v : Nat} (hf : f < 5) (hw : w < 10) (hr : r < 3) (hv : v < 131072) : ((((3 : Int32) ||| (nI f <<< ((2 : Int32) &&& 31))) ||| (nI w <<< ((5 : Int32) &&& 31))) ||| (nI r <<< ((9 : Int32) &&& 31))) ||| (nI v <<< ((11 : Int32) &&& 31)) = nI (3 + 4 * f + 32 * w + 512 * r + 2048 * v) := by
  have h1 : nI f <<< ((2 : Int32) &&& 31) = nI (f * 4) := pk_shlN _ 2 (by decide) (by omega)
  have h2 : nI w <<< ((5 : Int32) &&& 31) = nI (w * 32) := pk_shlN _ 5 (by decide) (by omega)
  have h3 : nI r <<< ((9 : Int32) &&& 31) = nI (r * 512) := pk_shlN _ 9 (by decide) (by omega)
  have h4 : nI v <<< ((11 : Int32) &&& 31) = nI (v * 2048) := pk_shlN _ 11 (by decide) (by omega)
  have e1 : 3 ||| f * 4 < 2 ^ 32 := Nat.or_lt_two_pow (by omega) (by omega)
  have e2 : 3 ||| f * 4 ||| w * 32 < 2 ^ 32 := Nat.or_lt_two_pow e1 (by omega)
  have e3 : 3 ||| f * 4 ||| w * 32 ||| r * 512 < 2 ^ 32 := Nat.or_lt_two_pow e2 (by omega)
  rw [h1, h2, h3, h4, n_3, nI_or (by omega) (by omega), nI_or e1 (by omega), nI_or e2 (by omega), nI_or e3 (by omega), pack_s f hf w hw r hr]
  congr 1
  have h5 := Nat.two_pow_add_eq_or_of_lt (i := 11) (b := 3 + 4 * f + 32 * w + 512 * r) (by show _ < 2048; omega) v
  rw [Nat.or_comm, Nat.mul_comm v, show (2048 : Nat) = 2 ^ 11 from rfl, ← h5]
  show 2048 * v + _ = _
  omega
theorem unpack {f w r v : Nat} (hf : f < 5) (hw : w < 10) (hr : r < 3) (hv : v < 131072) :
    nI (3 + 4 * f + 32 * w + 512 * r + 2048 * v) >>> ((5 : Int32) &&& 31) &&& 15 = nI w ∧ nI (3 + 4 * f + 32 * w + 512 * r + 2048 * v) >>> ((2 : Int32) &&& 31) &&& 7 = nI f ∧ nI (3 + 4 * f + 32 * w + 512 * r + 2048 * v) >>> ((9 : Int32) &&& 31) &&& 3 = nI r ∧ nI (3 + 4 * f + 32 * w + 512 * r + 2048 * v) >>> ((11 : Int32) &&& 31) = nI v := by
  generalize hN : 3 + 4 * f + 32 * w + 512 * r + 2048 * v = N
  have h1 : nI N >>> ((5 : Int32) &&& 31) = nI (N / 32) := pk_shrN (by omega) _ 5 (by decide)
  have h2 : nI N >>> ((2 : Int32) &&& 31) = nI (N / 4) := pk_shrN (by omega) _ 2 (by decide)
  have h3 : nI N >>> ((9 : Int32) &&& 31) = nI (N / 512) := pk_shrN (by omega) _ 9 (by decide)
  have h4 : nI N >>> ((11 : Int32) &&& 31) = nI (N / 2048) := pk_shrN (by omega) _ 11 (by decide)
  have g1 : nI (N / 32) &&& 15 = nI (N / 32 % 16) := pk_andN (by omega) 4 rfl
  have g2 : nI (N / 4) &&& 7 = nI (N / 4 % 8) := pk_andN (by omega) 3 rfl
  have g3 : nI (N / 512) &&& 3 = nI (N / 512 % 4) := pk_andN (by omega) 2 rfl
  rw [h1, h2, h3, h4, g1, g2, g3]
  refine ⟨?_, ?_, ?_, ?_⟩ <;> congr 1 <;> omega
theorem sI_sI (σ : Hp) (k j : Nat) (v w : Int32) : sI (sI σ k j v) k j w = sI σ k j w := by
  refine Prod.ext ?_ rfl
  funext a
  rw [sI_1, sI_1, sI_1, sI_1, if_pos rfl]
  by_cases h : a = k
  · rw [if_pos h, if_pos h]
    funext i
    rw [upd_at, upd_at, upd_at]
    by_cases e : i = j
    · rw [if_pos e, if_pos e]
    · rw [if_neg e, if_neg e, if_neg e]
  · rw [if_neg h, if_neg h, if_neg h]
theorem sI_id {σ : Hp} {k j : Nat} {v : Int32} (h : σ.1 k j = v) : sI σ k j v = σ := by
  unfold sI sR
  refine Prod.ext ?_ rfl
  funext a
  show (if a = k then _ else _) = _
  by_cases e : a = k
  · rw [if_pos e, e]
    funext i
    rw [upd_at]
    by_cases e2 : i = j
    · rw [if_pos e2, e2, h]
    · rw [if_neg e2]
  · rw [if_neg e]
/-- the text of a rule -/
def txt (ρ : Hp) (r : Nat) : Nat → Int32 := fun k => ρ.1 116 (40 * r + k)
theorem m_sign {ρ : Hp} {r L p : Nat} (hr : r < 16) (hL : ρ.1 117 r = nI L) (hL40 : L ≤ 40) (hp : ρ.1 86 43 = nI p) (hp1 : p < 1000000) : f_X12_signOf (nI r) ρ = some (tx (txt ρ r) L p) := by
  unfold f_X12_signOf f_X12_signOf_j31 tx
  rw [ldI_n (by omega) (by omega), hL, hp, jn_e]
  by_cases h : p < L
  · rw [if_pos h, le_f h (by omega), show (40 : Int32) = nI 40 from rfl, pk_mul, nI_add, ldI_n (by omega) (by omega)]
    rfl
  · rw [if_neg h, le_t (by omega) (by omega)]
theorem m_isDigit (c : Int32) : f_X12_isDigit c = some (if 48 ≤ c.toInt ∧ c.toInt ≤ 57 then 1 else 0) := by
  unfold f_X12_isDigit f_X12_isDigit_j17 f_X12_isDigit_j16
  rw [jn_e, jn_e]
  have e1 : (48 : Int32).toInt = 48 := rfl
  have e2 : (57 : Int32).toInt = 57 := rfl
  simp only [i32_lt, e1, e2]
  by_cases h1 : c.toInt < 48
  · rw [if_pos h1, if_neg (by omega), ckZ_0]
  · by_cases h2 : 57 < c.toInt
    · rw [if_neg h1, if_pos h2, if_neg (by omega), ckZ_0]
    · rw [if_neg h1, if_neg h2, if_pos (by omega), ckZ_1]
theorem txt_keep {ρ : Hp} {r : Nat} {j : Nat} {v : Int32} : txt (sI ρ 86 j v) r = txt ρ r := rfl
theorem m_num {ρ : Hp} {r L q : Nat} (hr : r < 16) (hL : ρ.1 117 r = nI L) (hL40 : L ≤ 40) (k103 : Int32 × Hp → Option (Int32 × Hp)) {v' : Int32} : ∀ (k p : Nat) (v : Int32) (m : Nat), k < m → p + k < 1000000 → sNum (txt ρ r) L k p v = (q, v') → ¬ (48 ≤ (tx (txt ρ r) L q).toInt ∧ (tx (txt ρ r) L q).toInt ≤ 57) → lp (f_X12_compared_l63 (nI r) k103) m (v, sI ρ 86 43 (nI p)) = k103 (v', sI ρ 86 43 (nI q))
  | k, p, v, 0, h, _, _, _ => absurd h (by omega)
  | k, p, v, m + 1, hk, hp, hs, hq => by
    rw [lp_succ]
    have hS := m_sign (ρ := sI ρ 86 43 (nI p)) hr (show (sI ρ 86 43 (nI p)).1 117 r = nI L from hL) hL40 rfl (show p < 1000000 by omega)
    have hF : ∀ K, f_X12_compared_l63 (nI r) k103 K (v, sI ρ 86 43 (nI p)) = if 48 ≤ (tx (txt ρ r) L p).toInt ∧ (tx (txt ρ r) L p).toInt ≤ 57 then K (((10 : Int32) * v + tx (txt ρ r) L p) - 48, sI ρ 86 43 (nI (p + 1))) else k103 (v, sI ρ 86 43 (nI p)) := fun K => by
      unfold f_X12_compared_l63
      dsimp only
      rw [hS, cr_s, m_isDigit, cr_s, cr_s, lt_e, lt_e, show (sI ρ 86 43 (nI p)).1 86 43 = nI p from rfl, nI_1, sI_sI, txt_keep]
      by_cases h1 : 48 ≤ (tx (txt ρ r) L p).toInt ∧ (tx (txt ρ r) L p).toInt ≤ 57
      · rw [if_pos h1, z1z, if_pos h1]
      · rw [if_neg h1, z0z, if_neg h1]
    rw [hF]
    match k, hk, hp, hs with
    | 0, hk, hp, hs =>
      unfold sNum at hs
      obtain ⟨e1, e2⟩ := Prod.mk.inj hs
      subst e1 e2
      rw [if_neg hq]
    | k + 1, hk, hp, hs =>
      unfold sNum at hs
      by_cases h1 : 48 ≤ (tx (txt ρ r) L p).toInt ∧ (tx (txt ρ r) L p).toInt ≤ 57
      · rw [if_pos h1] at hs ⊢
        rw [show ((10 : Int32) * v + tx (txt ρ r) L p) - 48 = v * 10 + (tx (txt ρ r) L p - 48) by rw [Int32.mul_comm, Int32.sub_eq_add_neg, Int32.sub_eq_add_neg, Int32.add_assoc]]
        exact m_num hr hL hL40 k103 k (p + 1) _ m (by omega) (by omega) hs hq
      · rw [if_neg h1] at hs ⊢
        obtain ⟨e1, e2⟩ := Prod.mk.inj hs
        subst e1 e2
        rfl
theorem dig_n {c : Int32} (h : 48 ≤ c.toInt ∧ c.toInt ≤ 57) : ∃ d, d < 10 ∧ c - 48 = nI d := by
  refine ⟨(c.toInt - 48).toNat, by omega, ?_⟩
  apply Int32.toInt_inj.1
  have e : (48 : Int32).toInt = 48 := rfl
  rw [subI (by rw [e]; omega) (by rw [e]; omega), nI_toInt (by omega), e]
  omega
theorem sNum_n {t : Nat → Int32} {L : Nat} : ∀ (k p a e : Nat), a < e → ∃ q N, sNum t L k p (nI a) = (q, nI N) ∧ N < e * 10 ^ k ∧ p ≤ q ∧ (p ≤ L → q ≤ L)
  | 0, p, a, e, h => ⟨p, a, rfl, by omega, Nat.le_refl _, id⟩
  | k + 1, p, a, e, h => by
    unfold sNum
    by_cases h1 : 48 ≤ (tx t L p).toInt ∧ (tx t L p).toInt ≤ 57
    · rw [if_pos h1]
      obtain ⟨d, hd, ed⟩ := dig_n h1
      obtain ⟨q, N, g1, g2, g3, g4⟩ := sNum_n (t := t) (L := L) k (p + 1) (a * 10 + d) (e * 10) (by omega)
      rw [ed, n_10, pk_mul, nI_add]
      refine ⟨q, N, g1, by rw [Nat.pow_succ']; rw [Nat.mul_assoc] at g2; exact g2, by omega, fun hp => g4 ?_⟩
      apply Nat.lt_of_not_le
      intro hh
      unfold tx at h1
      rw [if_neg (by omega)] at h1
      exact absurd h1.1 (by decide)
    · rw [if_neg h1]
      refine ⟨p, a, rfl, ?_, Nat.le_refl _, id⟩
      have : 0 < 10 ^ (k + 1) := Nat.pow_pos (by omega)
      exact Nat.lt_of_lt_of_le h (Nat.le_mul_of_pos_right e this)
