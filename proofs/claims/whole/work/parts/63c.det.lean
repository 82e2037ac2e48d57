/-! ===== minors by the first rows ===== -/
def mnS (v : Nat → Nat → Int) (S : Nat) : Int := WTm v 31 (pcN S 5) S
theorem pc_x : ∀ S, S < 32 → ∀ c, c < 5 → S.testBit c = true → pcN S 5 = pcN (S ^^^ 2 ^ c) 5 + 1 ∧ S ^^^ 2 ^ c < S := by decide +kernel
theorem WT_31 (v : Nat → Nat → Int) {k : Nat} (hk : k < 5) : WTm v 31 (k + 1) = wd (WTm v 31 k) (v k) := by
  show (if Nat.testBit 31 k then wd (WTm v 31 k) (v k) else WTm v 31 k) = _
  rw [if_pos]
  rcases (show k = 0 ∨ k = 1 ∨ k = 2 ∨ k = 3 ∨ k = 4 by omega) with rfl | rfl | rfl | rfl | rfl <;> decide
theorem mnS_0 (v : Nat → Nat → Int) : mnS v 0 = 1 := rfl
theorem mnS_31 (v : Nat → Nat → Int) : mnS v 31 = PT v 31 := rfl
theorem mnS_s (v : Nat → Nat → Int) {S k : Nat} (hS : S < 32) (hk : pcN S 5 = k + 1) (hk5 : k < 5) : mnS v S = a5 (fun c => if S.testBit c then sg S c * v k c * mnS v (S ^^^ 2 ^ c) else 0) := by
  unfold mnS
  rw [hk, WT_31 v hk5]
  show s6 (fun c => if S.testBit c then sg S c * v k c * WTm v 31 k (S ^^^ 2 ^ c) else 0) = _
  rw [s6_a5]
  have h5 : S.testBit 5 = false := tbT hS (by omega)
  rw [h5, if_neg (show ¬ false = true by decide), Int.add_zero]
  apply a5_c
  intro c hc
  by_cases h : S.testBit c = true
  · rw [if_pos h, if_pos h]
    have := pc_x S hS c hc h
    rw [show pcN (S ^^^ 2 ^ c) 5 = k by omega]
  · rw [if_neg h, if_neg h]
/-- with the sixth column in the place of one -/
def vR (v : Nat → Nat → Int) (r : Nat) (i c : Nat) : Int := if c = r then v i 5 else v i c
theorem sg_sw1 : ∀ S, S < 32 → ∀ r, r < 5 → S.testBit r = true → sg (S ^^^ 2 ^ r ^^^ 32) 5 = 1 ∧ (S ^^^ 2 ^ r ^^^ 32).testBit 5 = true ∧ (S ^^^ 2 ^ r ^^^ 32).testBit r = false ∧ S ^^^ 2 ^ r ^^^ 32 ^^^ 2 ^ 5 = S ^^^ 2 ^ r ∧ (S ^^^ 2 ^ r).testBit r = false ∧ S ^^^ 2 ^ r < 32 := by decide +kernel
theorem sg_sw2b : ∀ S, S < 32 → ∀ r, r < 5 → ∀ c, c < 5 → (!(S.testBit r) || (decide (c = r) || ((S ^^^ 2 ^ r ^^^ 32).testBit c == S.testBit c))) = true := by decide +kernel
theorem sg_sw2 (S : Nat) (hS : S < 32) (r : Nat) (hr : r < 5) (c : Nat) (hc : c < 5) (h : S.testBit r = true) (hcr : ¬ c = r) : (S ^^^ 2 ^ r ^^^ 32).testBit c = S.testBit c := by
  have := sg_sw2b S hS r hr c hc
  rw [h, decide_eq_false hcr, Bool.not_true, Bool.false_or, Bool.false_or] at this
  exact eq_of_beq this
theorem sg_sw3b : ∀ S, S < 32 → ∀ r, r < 5 → ∀ c, c < 5 → (!(S.testBit r) || (decide (c = r) || (!(S.testBit c) || ((S ^^^ 2 ^ c).testBit r && (decide (S ^^^ 2 ^ c < 32) && (decide (sg S c * sg (S ^^^ 2 ^ c) r = sg S r * sg (S ^^^ 2 ^ r ^^^ 32) c) && decide (S ^^^ 2 ^ c ^^^ 2 ^ r ^^^ 32 = S ^^^ 2 ^ r ^^^ 32 ^^^ 2 ^ c))))))) = true := by decide +kernel
theorem sg_sw3 (S : Nat) (hS : S < 32) (r : Nat) (hr : r < 5) (c : Nat) (hc : c < 5) (h : S.testBit r = true) (hcr : ¬ c = r) (hb : S.testBit c = true) : (S ^^^ 2 ^ c).testBit r = true ∧ S ^^^ 2 ^ c < 32 ∧ sg S c * sg (S ^^^ 2 ^ c) r = sg S r * sg (S ^^^ 2 ^ r ^^^ 32) c ∧ S ^^^ 2 ^ c ^^^ 2 ^ r ^^^ 32 = S ^^^ 2 ^ r ^^^ 32 ^^^ 2 ^ c := by
  have := sg_sw3b S hS r hr c hc
  rw [h, hb, decide_eq_false hcr, Bool.not_true, Bool.false_or, Bool.false_or, Bool.false_or, Bool.and_eq_true, Bool.and_eq_true, Bool.and_eq_true, decide_eq_true_iff, decide_eq_true_iff, decide_eq_true_iff] at this
  exact this
theorem sg_sw {S r : Nat} (hS : S < 32) (hr : r < 5) (h : S.testBit r = true) : sg (S ^^^ 2 ^ r ^^^ 32) 5 = 1 ∧ (S ^^^ 2 ^ r ^^^ 32).testBit 5 = true ∧ (S ^^^ 2 ^ r ^^^ 32).testBit r = false ∧ S ^^^ 2 ^ r ^^^ 32 ^^^ 2 ^ 5 = S ^^^ 2 ^ r ∧ (S ^^^ 2 ^ r).testBit r = false ∧ S ^^^ 2 ^ r < 32 ∧ ∀ c, c < 5 → c ≠ r → (S ^^^ 2 ^ r ^^^ 32).testBit c = S.testBit c ∧ (S.testBit c = true → (S ^^^ 2 ^ c).testBit r = true ∧ S ^^^ 2 ^ c < 32 ∧ sg S c * sg (S ^^^ 2 ^ c) r = sg S r * sg (S ^^^ 2 ^ r ^^^ 32) c ∧ S ^^^ 2 ^ c ^^^ 2 ^ r ^^^ 32 = S ^^^ 2 ^ r ^^^ 32 ^^^ 2 ^ c) := by
  obtain ⟨a1, a2, a3, a4, a5', a6⟩ := sg_sw1 S hS r hr h
  exact ⟨a1, a2, a3, a4, a5', a6, fun c hc hcr => ⟨sg_sw2 S hS r hr c hc h hcr, fun hb => sg_sw3 S hS r hr c hc h hcr hb⟩⟩
theorem tb_nob : ∀ S, S < 32 → ∀ r, r < 5 → ∀ c, c < 5 → (S.testBit r || (!(S.testBit c) || (!((S ^^^ 2 ^ c).testBit r) && decide (S ^^^ 2 ^ c < 32)))) = true := by decide +kernel
theorem tb_no (S : Nat) (hS : S < 32) (r : Nat) (hr : r < 5) (c : Nat) (hc : c < 5) (h : S.testBit r = false) (hb : S.testBit c = true) : (S ^^^ 2 ^ c).testBit r = false ∧ S ^^^ 2 ^ c < 32 := by
  have := tb_nob S hS r hr c hc
  rw [h, hb, Bool.not_true, Bool.false_or, Bool.false_or, Bool.and_eq_true, Bool.not_eq_true', decide_eq_true_iff] at this
  exact this
theorem s6_sw {f g : Nat → Int} {r : Nat} (hr : r < 5) (h : ∀ c, c < 5 → c ≠ r → f c = g c) (h1 : f r = g 5) (h2 : f 5 = 0) (h3 : g r = 0) : s6 f = s6 g := by
  simp only [s6]
  rcases (show r = 0 ∨ r = 1 ∨ r = 2 ∨ r = 3 ∨ r = 4 by omega) with rfl | rfl | rfl | rfl | rfl
  · have e1 := h 1 (by omega) (by omega)
    have e2 := h 2 (by omega) (by omega)
    have e3 := h 3 (by omega) (by omega)
    have e4 := h 4 (by omega) (by omega)
    omega
  · have e1 := h 0 (by omega) (by omega)
    have e2 := h 2 (by omega) (by omega)
    have e3 := h 3 (by omega) (by omega)
    have e4 := h 4 (by omega) (by omega)
    omega
  · have e1 := h 1 (by omega) (by omega)
    have e2 := h 0 (by omega) (by omega)
    have e3 := h 3 (by omega) (by omega)
    have e4 := h 4 (by omega) (by omega)
    omega
  · have e1 := h 1 (by omega) (by omega)
    have e2 := h 2 (by omega) (by omega)
    have e3 := h 0 (by omega) (by omega)
    have e4 := h 4 (by omega) (by omega)
    omega
  · have e1 := h 1 (by omega) (by omega)
    have e2 := h 2 (by omega) (by omega)
    have e3 := h 3 (by omega) (by omega)
    have e4 := h 0 (by omega) (by omega)
    omega
theorem WT_R (v : Nat → Nat → Int) {r : Nat} (hr : r < 5) : ∀ k, k ≤ 5 → ∀ S, S < 32 → WTm (vR v r) 31 k S = if S.testBit r = true then sg S r * WTm v 31 k (S ^^^ 2 ^ r ^^^ 32) else WTm v 31 k S
  | 0, _, S, hS => by
    show (if S = 0 then 1 else 0) = if S.testBit r = true then sg S r * (if S ^^^ 2 ^ r ^^^ 32 = 0 then 1 else 0) else (if S = 0 then (1 : Int) else 0)
    by_cases h : S.testBit r = true
    · have hs := sg_sw hS hr h
      have h0 : ¬ S = 0 := fun e => by rw [e, Nat.zero_testBit] at h; cases h
      have h1 : ¬ (S ^^^ 2 ^ r ^^^ 32) = 0 := fun e => by
        have := hs.2.1
        rw [e, Nat.zero_testBit] at this; cases this
      rw [if_pos h, if_neg h0, if_neg h1, Int.mul_zero]
    · rw [if_neg h]
  | k + 1, hk, S, hS => by
    have ih := WT_R v hr k (by omega)
    rw [WT_31 _ (show k < 5 by omega), WT_31 _ (show k < 5 by omega)]
    have h5 : S.testBit 5 = false := tbT hS (by omega)
    by_cases h : S.testBit r = true
    · rw [if_pos h]
      obtain ⟨a1, a2, a3, a4, a5', a6, a7⟩ := sg_sw hS hr h
      unfold wd
      rw [s6_mul]
      refine s6_sw hr (fun c hc hcr => ?_) ?_ ?_ ?_
      · obtain ⟨b1, b2⟩ := a7 c hc hcr
        rw [b1]
        by_cases hc2 : S.testBit c = true
        · obtain ⟨d1, d2, d3, d4⟩ := b2 hc2
          rw [if_pos hc2, if_pos hc2, ih _ d2, if_pos d1, d4]
          unfold vR
          rw [if_neg hcr]
          have e : sg S c * v k c * (sg (S ^^^ 2 ^ c) r * WTm v 31 k (S ^^^ 2 ^ r ^^^ 32 ^^^ 2 ^ c)) = (sg S c * sg (S ^^^ 2 ^ c) r) * (v k c * WTm v 31 k (S ^^^ 2 ^ r ^^^ 32 ^^^ 2 ^ c)) := by simp only [Int.mul_assoc, Int.mul_left_comm, Int.mul_comm]
          rw [e, d3]
          simp only [Int.mul_assoc, Int.mul_left_comm, Int.mul_comm]
        · rw [if_neg hc2, if_neg hc2, Int.mul_zero]
      · rw [if_pos h, if_pos a2, a1, a4, ih _ a6, if_neg (by rw [a5']; decide), Int.one_mul]
        unfold vR
        rw [if_pos rfl, Int.mul_assoc]
      · rw [h5, if_neg (by decide)]
      · rw [a3, if_neg (by decide), Int.mul_zero]
    · rw [if_neg h]
      unfold wd
      apply s6_c
      intro c hc
      by_cases hc2 : S.testBit c = true
      · have hc5 : c < 5 := by
          apply Nat.lt_of_not_le
          intro hh
          rw [tbT hS hh] at hc2; cases hc2
        have hcr : c ≠ r := fun e => h (by rw [← e]; exact hc2)
        obtain ⟨b1, b2⟩ := tb_no S hS r hr c hc5 (Bool.eq_false_iff.2 h) hc2
        rw [if_pos hc2, if_pos hc2, ih _ b2, if_neg (by rw [b1]; decide)]
        unfold vR
        rw [if_neg hcr]
      · rw [if_neg hc2, if_neg hc2]
theorem sg_31 : ∀ r, r < 5 → sg 31 r = - (sg (31 ^^^ 2 ^ 5) 5 * sg (31 ^^^ 2 ^ 5) r) ∧ Nat.testBit 31 r = true ∧ (31 ^^^ 2 ^ 5).testBit r = true ∧ 31 ^^^ 2 ^ r ^^^ 32 = 31 ^^^ 2 ^ 5 ^^^ 2 ^ r := by decide +kernel
/-- the determinant with the leaks in the place of a column -/
theorem PT_R (v : Nat → Nat → Int) {r : Nat} (hr : r < 5) : PT (vR v r) 31 = - yT v 31 5 r := by
  obtain ⟨h1, h2, h3, h4⟩ := sg_31 r hr
  unfold PT yT
  rw [WT_R v hr 5 (Nat.le_refl _) 31 (by omega), if_pos h2, if_pos h3, h1, h4, Int.neg_mul]
/-- how great a minor may be -/
theorem sg_ab (S c : Nat) (x : Int) : (sg S c * x).natAbs = x.natAbs := by
  unfold sg
  split
  · rw [Int.neg_mul, Int.one_mul, Int.natAbs_neg]
  · rw [Int.one_mul]
theorem wd_bd {X v : Nat → Int} {B V : Nat} (hX : ∀ S, (X S).natAbs ≤ B) (hv : ∀ c, c < 6 → (v c).natAbs ≤ V) (S : Nat) : (wd X v S).natAbs ≤ 6 * (V * B) := by
  have ht : ∀ c, c < 6 → (if S.testBit c then sg S c * v c * X (S ^^^ 2 ^ c) else 0).natAbs ≤ V * B := fun c hc => by
    split
    · rw [Int.mul_assoc, sg_ab, Int.natAbs_mul]
      exact Nat.mul_le_mul (hv c hc) (hX _)
    · exact Nat.zero_le _
  have h0 := ht 0 (by omega)
  have h1 := ht 1 (by omega)
  have h2 := ht 2 (by omega)
  have h3 := ht 3 (by omega)
  have h4 := ht 4 (by omega)
  have h5 := ht 5 (by omega)
  unfold wd
  simp only [s6]
  generalize V * B = y at *
  omega
theorem WT_bd {v : Nat → Nat → Int} (hv : ∀ i c, i < 5 → c < 6 → (v i c).natAbs ≤ 999) : ∀ k, k ≤ 5 → ∀ S, (WTm v 31 k S).natAbs ≤ 5994 ^ k
  | 0, _, S => by
    show (if S = 0 then (1 : Int) else 0).natAbs ≤ 1
    split <;> decide
  | k + 1, hk, S => by
    have ih := WT_bd hv k (by omega)
    rw [WT_31 v (show k < 5 by omega)]
    refine Nat.le_trans (wd_bd ih (fun c hc => hv k c (by omega) hc) S) ?_
    rw [Nat.pow_succ]
    omega
/-- two rows behind a set see each other alike -/
theorem MT_sym {v : Nat → Nat → Int} (h : MM v) {T r c : Nat} (hT : T < 32) (hr : r < 5) (hrT : T.testBit r = false) (hc : c < 5) (hcT : T.testBit c = false) : dt (v r) (yT v T c) = dt (v c) (yT v T r) := by
  have hP := (PT_pos h T T (Nat.le_refl T) hT).1
  have hyc5 : yT v T c 5 = 0 := yT_o v (tbT hT (by omega)) (by omega)
  have hyr5 : yT v T r 5 = 0 := yT_o v (tbT hT (by omega)) (by omega)
  have hk : ∀ j, j < 5 → yT v T j 5 = 0 → ∀ i, i < 5 → T.testBit i = true → a5 (fun k => v i k * yT v T j k) = 0 := fun j hj h5 i hi hiT => by
    have := yT_k v (j := j) hT (by omega) hiT
    rw [dt_a5, h5, Int.mul_zero, Int.add_zero] at this
    exact this
  -- the double sum, by rows
  have hside : ∀ j, j < 5 → T.testBit j = false → ∀ y : Nat → Int, (∀ i, i < 5 → T.testBit i = true → a5 (fun k => v i k * y k) = 0) → a5 (fun i => yT v T j i * a5 (fun k => v i k * y k)) = PT v T * a5 (fun k => v j k * y k) := fun j hj hjT y hy => by
    have e : ∀ i, i < 5 → yT v T j i * a5 (fun k => v i k * y k) = if i = j then PT v T * a5 (fun k => v j k * y k) else 0 := fun i hi => by
      by_cases e : i = j
      · subst e; rw [if_pos rfl, yT_j v hjT]
      · rw [if_neg e]
        cases e2 : T.testBit i with
        | true => rw [hy i hi e2, Int.mul_zero]
        | false => rw [yT_o v e2 e, Int.zero_mul]
    rw [a5_c e, a5_pt hj]
  have h1 := hside r hr hrT (yT v T c) (hk c hc hyc5)
  have h2 := hside c hc hcT (yT v T r) (hk r hr hyr5)
  have h3 : a5 (fun i => yT v T r i * a5 (fun k => v i k * yT v T c k)) = a5 (fun i => yT v T c i * a5 (fun k => v i k * yT v T r k)) := by
    have e1 : a5 (fun i => yT v T r i * a5 (fun k => v i k * yT v T c k)) = a5 (fun i => a5 (fun k => yT v T r i * (v i k * yT v T c k))) := a5_c (fun i _ => a5_mul _ _)
    have e2 : a5 (fun i => yT v T c i * a5 (fun k => v i k * yT v T r k)) = a5 (fun i => a5 (fun k => yT v T c i * (v i k * yT v T r k))) := a5_c (fun i _ => a5_mul _ _)
    rw [e1, e2, a5_swap (fun i k => yT v T r i * (v i k * yT v T c k))]
    apply a5_c
    intro k hk
    apply a5_c
    intro i hi
    rw [h.2.1 i k hi hk]
    simp only [Int.mul_assoc, Int.mul_left_comm, Int.mul_comm]
  rw [h1, h2] at h3
  have h4 := Int.eq_of_mul_eq_mul_left (by omega) h3
  rw [dt_a5, dt_a5, hyc5, hyr5, Int.mul_zero, Int.mul_zero, Int.add_zero, Int.add_zero]
  exact h4
