/-! ===== true gases: what is counted ===== -/
def rdX (s : Nat → Nat) (g a b c : Nat) : Nat := s (3 * g) * a + s (3 * g + 1) * b + s (3 * g + 2) * c
def tgB (s : Nat → Nat) (q : Nat → Int) (D g a b c : Nat) : Bool := decide (q g < 0) || (decide (q g - D ≤ ((rdX s g a b c / 10 : Nat) : Int)) && decide (((rdX s g a b c / 10 : Nat) : Int) ≤ q g + D))
def tgA (s : Nat → Nat) (q : Nat → Int) (D a b c : Nat) : Nat → Bool
  | 0 => true
  | g + 1 => tgA s q D a b c g && tgB s q D g a b c
def vv (g k : Nat) : Nat := if g = 0 then k / 1681 else if g = 1 then k / 41 % 41 else k % 41
def tgK (s : Nat → Nat) (q : Nat → Int) (D k : Nat) : Bool := tgA s q D (k / 1681) (k / 41 % 41) (k % 41) 3
def cnF (F : Nat → Bool) : Nat → Nat
  | 0 => 0
  | k + 1 => cnF F k + (if F k = true then 1 else 0)
def mnF (F : Nat → Bool) (v : Nat → Nat) : Nat → Nat
  | 0 => 41
  | k + 1 => if F k = true then min (mnF F v k) (v k) else mnF F v k
def mxF (F : Nat → Bool) (v : Nat → Nat) : Nat → Int
  | 0 => -9
  | k + 1 => if F k = true then max (mxF F v k) (v k) else mxF F v k
theorem cn_le (F : Nat → Bool) : ∀ k, cnF F k ≤ k
  | 0 => Nat.le_refl _
  | k + 1 => by
    have := cn_le F k
    unfold cnF
    split <;> omega
theorem mn_le (F : Nat → Bool) (v : Nat → Nat) : ∀ k, mnF F v k ≤ 41
  | 0 => Nat.le_refl _
  | k + 1 => by
    have := mn_le F v k
    unfold mnF
    split <;> omega
theorem mx_bd {F : Nat → Bool} {v : Nat → Nat} (hv : ∀ k, k < 68921 → v k ≤ 40) : ∀ k, k ≤ 68921 → -9 ≤ mxF F v k ∧ mxF F v k ≤ 40
  | 0, _ => ⟨Int.le_refl _, by show (-9 : Int) ≤ 40; omega⟩
  | k + 1, hk => by
    have := mx_bd (F := F) hv k (by omega)
    have := hv k (by omega)
    unfold mxF
    split <;> omega
theorem vvw_le (g k : Nat) (hk : k < 68921) : vv g k ≤ 40 := by
  unfold vv
  split
  · omega
  · split <;> omega
section BLK
variable {F : Nat → Bool} {B : Nat} {lo hi : Int}
theorem blk_cn (hF : ∀ c : Nat, c < 41 → (F (B + c) = true ↔ lo ≤ c ∧ (c : Int) ≤ hi)) (h0 : 0 ≤ lo) (h1 : hi ≤ 40) : ∀ j, j ≤ 41 → (cnF F (B + j) : Int) = cnF F B + max 0 (min (j : Int) (hi + 1) - lo) := by
  intro j
  induction j with
  | zero => intro _; rw [Nat.add_zero]; omega
  | succ j ih =>
    intro hj
    have h2 := ih (by omega)
    have h3 := hF j (by omega)
    rw [← Nat.add_assoc, show cnF F (B + j + 1) = cnF F (B + j) + (if F (B + j) = true then 1 else 0) from rfl]
    by_cases e : F (B + j) = true
    · have := h3.1 e
      rw [if_pos e]; omega
    · have : ¬ (lo ≤ (j : Int) ∧ (j : Int) ≤ hi) := fun g => e (h3.2 g)
      rw [if_neg e]; omega
theorem blk_mn (hF : ∀ c : Nat, c < 41 → (F (B + c) = true ↔ lo ≤ c ∧ (c : Int) ≤ hi)) (h0 : 0 ≤ lo) (h1 : hi ≤ 40) {v : Nat → Nat} {x : Nat} (hv : ∀ c, c < 41 → v (B + c) = x) : ∀ j, j ≤ 41 → mnF F v (B + j) = if lo < min (j : Int) (hi + 1) then min (mnF F v B) x else mnF F v B := by
  intro j
  induction j with
  | zero => intro _; rw [Nat.add_zero, if_neg (by omega)]
  | succ j ih =>
    intro hj
    have h2 := ih (by omega)
    have h3 := hF j (by omega)
    have h4 := hv j (by omega)
    rw [← Nat.add_assoc]
    conv => lhs; unfold mnF
    rw [h4, h2]
    by_cases e : F (B + j) = true
    · have := h3.1 e
      rw [if_pos e, if_pos (show lo < min ((j + 1 : Nat) : Int) (hi + 1) by omega)]
      split <;> omega
    · have : ¬ (lo ≤ (j : Int) ∧ (j : Int) ≤ hi) := fun g => e (h3.2 g)
      rw [if_neg e]
      by_cases c1 : lo < min (j : Int) (hi + 1)
      · rw [if_pos c1, if_pos (by omega)]
      · rw [if_neg c1, if_neg (by omega)]
theorem blk_mx (hF : ∀ c : Nat, c < 41 → (F (B + c) = true ↔ lo ≤ c ∧ (c : Int) ≤ hi)) (h0 : 0 ≤ lo) (h1 : hi ≤ 40) {v : Nat → Nat} {x : Nat} (hv : ∀ c, c < 41 → v (B + c) = x) : ∀ j, j ≤ 41 → mxF F v (B + j) = if lo < min (j : Int) (hi + 1) then max (mxF F v B) x else mxF F v B := by
  intro j
  induction j with
  | zero => intro _; rw [Nat.add_zero, if_neg (by omega)]
  | succ j ih =>
    intro hj
    have h2 := ih (by omega)
    have h3 := hF j (by omega)
    have h4 := hv j (by omega)
    rw [← Nat.add_assoc]
    conv => lhs; unfold mxF
    rw [h4, h2]
    by_cases e : F (B + j) = true
    · have := h3.1 e
      rw [if_pos e, if_pos (show lo < min ((j + 1 : Nat) : Int) (hi + 1) by omega)]
      split <;> omega
    · have : ¬ (lo ≤ (j : Int) ∧ (j : Int) ≤ hi) := fun g => e (h3.2 g)
      rw [if_neg e]
      by_cases c1 : lo < min (j : Int) (hi + 1)
      · rw [if_pos c1, if_pos (by omega)]
      · rw [if_neg c1, if_neg (by omega)]
theorem blk_mnc (hF : ∀ c : Nat, c < 41 → (F (B + c) = true ↔ lo ≤ c ∧ (c : Int) ≤ hi)) (h0 : 0 ≤ lo) (h1 : hi ≤ 40) {v : Nat → Nat} (hv : ∀ c, c < 41 → v (B + c) = c) : ∀ j, j ≤ 41 → (mnF F v (B + j) : Int) = if lo < min (j : Int) (hi + 1) then min (mnF F v B : Int) lo else mnF F v B := by
  intro j
  induction j with
  | zero => intro _; rw [Nat.add_zero, if_neg (by omega)]
  | succ j ih =>
    intro hj
    have h2 := ih (by omega)
    have h3 := hF j (by omega)
    have h4 := hv j (by omega)
    rw [← Nat.add_assoc]
    conv => lhs; unfold mnF
    rw [h4]
    by_cases e : F (B + j) = true
    · have := h3.1 e
      rw [if_pos e, if_pos (show lo < min ((j + 1 : Nat) : Int) (hi + 1) by omega)]
      by_cases c1 : lo < min (j : Int) (hi + 1)
      · rw [if_pos c1] at h2; omega
      · rw [if_neg c1] at h2; omega
    · have : ¬ (lo ≤ (j : Int) ∧ (j : Int) ≤ hi) := fun g => e (h3.2 g)
      rw [if_neg e, h2]
      by_cases c1 : lo < min (j : Int) (hi + 1)
      · rw [if_pos c1, if_pos (by omega)]
      · rw [if_neg c1, if_neg (by omega)]
theorem blk_mxc (hF : ∀ c : Nat, c < 41 → (F (B + c) = true ↔ lo ≤ c ∧ (c : Int) ≤ hi)) (h0 : 0 ≤ lo) (h1 : hi ≤ 40) {v : Nat → Nat} (hv : ∀ c, c < 41 → v (B + c) = c) : ∀ j, j ≤ 41 → mxF F v (B + j) = if lo < min (j : Int) (hi + 1) then max (mxF F v B) (min (j : Int) (hi + 1) - 1) else mxF F v B := by
  intro j
  induction j with
  | zero => intro _; rw [Nat.add_zero, if_neg (by omega)]
  | succ j ih =>
    intro hj
    have h2 := ih (by omega)
    have h3 := hF j (by omega)
    have h4 := hv j (by omega)
    rw [← Nat.add_assoc]
    conv => lhs; unfold mxF
    rw [h4]
    by_cases e : F (B + j) = true
    · have := h3.1 e
      rw [if_pos e, if_pos (show lo < min ((j + 1 : Nat) : Int) (hi + 1) by omega)]
      by_cases c1 : lo < min (j : Int) (hi + 1)
      · rw [if_pos c1] at h2; omega
      · rw [if_neg c1] at h2; omega
    · have : ¬ (lo ≤ (j : Int) ∧ (j : Int) ≤ hi) := fun g => e (h3.2 g)
      rw [if_neg e, h2]
      by_cases c1 : lo < min (j : Int) (hi + 1)
      · rw [if_pos c1, if_pos (by omega)]; omega
      · rw [if_neg c1, if_neg (by omega)]
end BLK
/-- what both are told of the gauges -/
def Gg (s : Nat → Nat) (q : Nat → Int) (c68 c69 : Nat → Int32) : Prop := c68 = nrow s ∧ (∀ k, s k ≤ 9) ∧ (∀ g, (c69 g).toInt = q g) ∧ ∀ g, -1 ≤ q g ∧ q g ≤ 9999
theorem rdX_le {s : Nat → Nat} (hs : ∀ k, s k ≤ 9) (g : Nat) {a b c : Nat} (ha : a ≤ 40) (hb : b ≤ 40) (hc : c ≤ 40) : rdX s g a b c ≤ 1080 := by
  have h1 := Nat.mul_le_mul (hs (3 * g)) ha
  have h2 := Nat.mul_le_mul (hs (3 * g + 1)) hb
  have h3 := Nat.mul_le_mul (hs (3 * g + 2)) hc
  unfold rdX
  omega
theorem c_bound {s : Nat → Nat} {q : Nat → Int} {σ : Hp} {D a b : Nat} (hG : Gg s q (σ.1 68) (σ.1 69)) (hD : D ≤ 9) (ha : a ≤ 40) (hb : b ≤ 40) : ∃ σ' lo hi, f_X3_bound (nI D) (nI a) (nI b) σ = some σ' ∧ (∀ c, c ≠ 67 → σ'.1 c = σ.1 c) ∧ (σ'.1 67 4).toInt = lo ∧ (σ'.1 67 5).toInt = hi ∧ 0 ≤ lo ∧ hi ≤ 40 ∧ ∀ c : Nat, c ≤ 40 → (tgA s q D a b c 3 = true ↔ lo ≤ c ∧ (c : Int) ≤ hi) := by
  obtain ⟨G1, G2, G3, G4⟩ := hG
  unfold f_X3_bound
  rw [lt_e, lt_e]
  refine lp_h (Q := fun y => ∃ (σ' : Hp) (lo hi : Int), y = some σ' ∧ (∀ c, c ≠ 67 → σ'.1 c = σ.1 c) ∧ (σ'.1 67 4).toInt = lo ∧ (σ'.1 67 5).toInt = hi ∧ 0 ≤ lo ∧ hi ≤ 40 ∧ ∀ c : Nat, c ≤ 40 → (tgA s q D a b c 3 = true ↔ lo ≤ c ∧ (c : Int) ≤ hi)) 3 (fun g ρ => (∀ c, c ≠ 67 → ρ.1 c = σ.1 c) ∧ ∃ lo hi : Int, (ρ.1 67 4).toInt = lo ∧ (ρ.1 67 5).toInt = hi ∧ 0 ≤ lo ∧ hi ≤ 40 ∧ ∀ c : Nat, c ≤ 40 → (tgA s q D a b c g = true ↔ lo ≤ c ∧ (c : Int) ≤ hi)) ?_ ?_ (by omega) ?_
  · rintro g ρ hg ⟨r1, lo, hi, r2, r3, r4, r5, r6⟩ K
    have e68 : ρ.1 68 = nrow s := by rw [r1 68 (by omega)]; exact G1
    have e69 : ρ.1 69 = σ.1 69 := r1 69 (by omega)
    have q0 := G4 g
    have qv : (σ.1 69 g).toInt = q g := G3 g
    have hK : ∀ ρ', f_X3_bound_j113 (nI g, ρ) K ρ' = K (nI (g + 1), ρ') := fun ρ' => by
      unfold f_X3_bound_j113
      rw [lt_e, nI_1]
    have hfB : ∀ c, tgA s q D a b c (g + 1) = (tgA s q D a b c g && tgB s q D g a b c) := fun c => rfl
    by_cases c1 : q g < 0
    · refine ⟨ρ, ⟨r1, lo, hi, r2, r3, r4, r5, fun c hc => ?_⟩, ?_⟩
      · rw [hfB]
        have : tgB s q D g a b c = true := by unfold tgB; rw [decide_eq_true c1]; rfl
        rw [this, Bool.and_true]
        exact r6 c hc
      · unfold f_X3_bound_l14
        dsimp only
        rw [show ∀ y z : Option Hp, (if (3 : Int32) ≤ nI g then y else z) = z from fun y z => le_f (a := 3) (by omega) (by omega), ldI_n (by omega) (by omega), e69, jn_e, hK, if_pos (by rw [i32_lt, qv, l_0]; exact c1)]
    · have s0 := G2 (3 * g)
      have s1 := G2 (3 * g + 1)
      have s2 := G2 (3 * g + 2)
      have m0 := Nat.mul_le_mul s0 ha
      have m1 := Nat.mul_le_mul s1 hb
      generalize hX : s (3 * g) * a + s (3 * g + 1) * b = X
      have hXl : X ≤ 720 := by omega
      have hXi : (nI X).toInt = (X : Int) := nI_toInt (by omega)
      have hDi : (nI D).toInt = (D : Int) := nI_toInt (by omega)
      have d1 : (σ.1 69 g - nI D).toInt = q g - D := by rw [subI (by rw [qv, hDi]; omega) (by rw [qv, hDi]; omega), qv, hDi]
      have d2 : ((10 : Int32) * (σ.1 69 g - nI D)).toInt = 10 * (q g - D) := by rw [mulI (by rw [d1, l_10]; omega) (by rw [d1, l_10]; omega), d1, l_10]
      have d3 : ((10 : Int32) * (σ.1 69 g - nI D) - nI X).toInt = 10 * (q g - D) - X := by rw [subI (by rw [d2, hXi]; omega) (by rw [d2, hXi]; omega), d2, hXi]
      have u1 : (σ.1 69 g + nI D).toInt = q g + D := by rw [addI (by rw [qv, hDi]; omega) (by rw [qv, hDi]; omega), qv, hDi]
      have u2 : ((10 : Int32) * (σ.1 69 g + nI D)).toInt = 10 * (q g + D) := by rw [mulI (by rw [u1, l_10]; omega) (by rw [u1, l_10]; omega), u1, l_10]
      have u3 : ((10 : Int32) * (σ.1 69 g + nI D) + 9).toInt = 10 * (q g + D) + 9 := by rw [addI (by rw [u2, l_9]; omega) (by rw [u2, l_9]; omega), u2, l_9]
      have u4 : ((10 : Int32) * (σ.1 69 g + nI D) + 9 - nI X).toInt = 10 * (q g + D) + 9 - X := by rw [subI (by rw [u3, hXi]; omega) (by rw [u3, hXi]; omega), u3, hXi]
      obtain ⟨ρ', lo', hi', k1, k2, k3, k4, k5, k6, k7⟩ := c_narrow (σ := ρ) s2 (by rw [d3]; omega) (by rw [u4]; omega) r2 r3 r4 r5
      refine ⟨ρ', ⟨fun c hc => by rw [k2 c hc]; exact r1 c hc, lo', hi', k3, k4, k5, k6, fun c hc => ?_⟩, ?_⟩
      · have h7 := k7 c (by omega)
        rw [d3, u4] at h7
        rw [← h7, hfB, Bool.and_eq_true, r6 c hc]
        have hfb : tgB s q D g a b c = true ↔ (10 * (q g - ↑D) - (X : Int) ≤ (s (3 * g + 2) : Int) * c ∧ (s (3 * g + 2) : Int) * c ≤ 10 * (q g + ↑D) + 9 - X) := by
          unfold tgB rdX
          rw [decide_eq_false c1, Bool.false_or, Bool.and_eq_true, decide_eq_true_iff, decide_eq_true_iff, hX]
          have e : ((s (3 * g + 2) * c : Nat) : Int) = (s (3 * g + 2) : Int) * c := Int.natCast_mul _ _
          rw [← e]
          generalize s (3 * g + 2) * c = y
          omega
        rw [hfb]
      · unfold f_X3_bound_l14
        dsimp only
        rw [show ∀ y z : Option Hp, (if (3 : Int32) ≤ nI g then y else z) = z from fun y z => le_f (a := 3) (by omega) (by omega), ldI_n (by omega) (by omega), e69, jn_e, hK, if_neg (by rw [i32_lt, qv, l_0]; exact c1), show (3 : Int32) = nI 3 from rfl, pk_mul, Nat.mul_comm g 3, ldI_n (by omega) (by omega), nI_1, ldI_n (by omega) (by omega), e68, nrow_at, nrow_at, pk_mul, pk_mul, nI_add, hX, lt_e, ldI_n (by omega) (by omega), e69, lt_e, ldI_n (by omega) (by omega), e69, lt_e, show (2 : Int32) = nI 2 from rfl, nI_add, ldI_n (by omega) (by omega), e68, nrow_at, k1, cr_s, hK]
  · rintro ρ ⟨r1, lo, hi, r2, r3, r4, r5, r6⟩ K
    refine ⟨ρ, lo, hi, ?_, r1, r2, r3, r4, r5, r6⟩
    unfold f_X3_bound_l14
    dsimp only
    rw [show ∀ y z : Option Hp, (if (3 : Int32) ≤ nI 3 then y else z) = y from fun y z => le_t (a := 3) (Nat.le_refl _) (by omega)]
  · refine ⟨fun c hc => by rw [sI_1, if_neg hc, sI_1, if_neg hc], 0, 40, rfl, rfl, by omega, by omega, fun c hc => ?_⟩
    show true = true ↔ _
    exact ⟨fun _ => ⟨by omega, by omega⟩, fun _ => rfl⟩
