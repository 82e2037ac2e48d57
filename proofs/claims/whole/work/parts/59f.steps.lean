theorem Pic_works {ρ0 ρ : Hp} {p m : Nat} {w : List Nat} {V : List Bool} (hm : m ≤ 2) (h : Pic ρ0 ρ p w V) (hw : w.length ≤ 40) (hV : V.length ≤ 40) (hn : V.length = nb w + 1) {w' : List Nat} {V' : List Bool} (he : wk m w V = (w', V')) : ∃ ρ', f_X12_works (nI m) ρ = some ρ' ∧ Pic ρ0 ρ' p w' V' ∧ w'.length ≤ w.length ∧ V'.length ≤ V.length ∧ V'.length = nb w' + 1 := by
  obtain ⟨ρ', w1, w2⟩ := m_works (ρ0 := ρ0) (p := p) hm w V ρ FU (by rw [FU_e]; omega) hw hV (by omega) h
  obtain ⟨l1, l2, l3⟩ := wk_len hm w V
  rw [he] at w2 l1 l2 l3
  exact ⟨ρ', w1, w2, l1, l2, l3 hn⟩
theorem sB_close {ρ0 : Hp} {Q : Option (Int32 × Hp) → Prop} {p r L : Nat} {w w' : List Nat} {V V' : List Bool} (hr : r < 16) (hL : ρ0.1 117 r = nI L) (hL40 : L ≤ 40) (hc : tx (txt ρ0 r) L p = 41) (he : wk 2 w V = (9 :: w', V')) (h : BQ ρ0 r Q (p + 1) (wk 0 w' V').1 (wk 0 w' V').2) : BQ ρ0 r Q p w V := by
  intro a1 a2 a3 ρ m f hP hm hf
  have hp : p < L := tx_lt (fun e => by rw [e] at hc; exact absurd hc (by decide))
  match f, hf with
  | 0, hf => exact absurd hf (by omega)
  | f + 1, hf =>
    rw [lp_succ]
    obtain ⟨ρ1, g1, g2, g3, g4, g5⟩ := Pic_works (by omega) hP (by omega) (by omega) a3 he
    rw [List.length_cons] at g3
    unfold nb at g5
    rw [if_neg (by omega)] at g5
    have hP2 := Pic_p (q := p + 1) (Pic_w g2)
    obtain ⟨ρ2, k1, k2, k3, k4, k5⟩ := Pic_works (m := 0) (by omega) hP2 (by omega) (by omega) (by omega) rfl
    have hS := Pic_sign hP hr hL hL40 (by omega)
    have hF : ∀ k153 K, f_X12_holdsRule_l110 (nI r) k153 K ρ = K ρ2 := fun k153 K => by
      unfold f_X12_holdsRule_l110
      rw [hS, cr_s, hc, if_pos rfl, show (2 : Int32) = nI 2 from rfl, g1, cr_s, g2.1.2.1, List.length_cons, nI_s1, lt_e, lt_e, show (sI ρ1 86 44 (nI w'.length)).1 86 43 = ρ1.1 86 43 from rfl, g2.1.1, nI_1, show (0 : Int32) = nI 0 from rfl, k1, cr_s]
    rw [hF]
    exact h (by omega) (by omega) k5 ρ2 m f k2 (by omega) (by omega)
theorem F15_go {ρ0 ρ : Hp} {p r L : Nat} {w : List Nat} {V : List Bool} (h : Pic ρ0 ρ p w V) (hr : r < 16) (hL : ρ0.1 117 r = nI L) (hL40 : L ≤ 40) (hp : p < L) (K : Hp → Option (Int32 × Hp)) : F15 r K ρ = lp (f_X12_holdsRule_l28 (nI r) (f_X12_holdsRule_j81 (nI r) K)) FU ρ := by
  unfold F15 f_X12_holdsRule_l15
  rw [ldI_n (by omega) (by omega), (Pic_txt h r).2, hL, h.1.1, le_f hp (by omega), jn_e]
theorem F110_op {ρ0 ρ : Hp} {p r L k : Nat} {w w' : List Nat} {V V' : List Bool} (h : Pic ρ0 ρ p w V) (hr : r < 16) (hL : ρ0.1 117 r = nI L) (hL40 : L ≤ 40) (hp : p < L) (hc : (tx (txt ρ0 r) L p = 38 ∧ k = 1) ∨ (tx (txt ρ0 r) L p = 124 ∧ k = 2)) (he : wk k w V = (w', V')) (hw : w.length ≤ p) (hV : V.length ≤ p) (hn : V.length = nb w + 1) : ∃ ρ', Pic ρ0 ρ' (p + 1) (k :: w') V' ∧ ∀ kl15 K, f_X12_holdsRule_l110 (nI r) (f_X12_holdsRule_j153 (nI r) kl15) K ρ = kl15 ρ' := by
  obtain ⟨ρ1, g1, g2, g3, g4, g5⟩ := Pic_works (show k ≤ 2 by omega) h (by omega) (by omega) hn he
  obtain ⟨ρ2, k1, k2⟩ := m_waits (c := k) g2 (by omega) (by omega)
  refine ⟨sI ρ2 86 43 (nI (p + 1)), Pic_p k2, fun kl15 K => ?_⟩
  have hS := Pic_sign h hr hL hL40 (by omega)
  have hS2 := Pic_sign k2 hr hL hL40 (by omega)
  have hj : f_X12_holdsRule_j193 kl15 ρ2 = kl15 (sI ρ2 86 43 (nI (p + 1))) := by
    unfold f_X12_holdsRule_j193
    rw [lt_e, k2.1.1, nI_1]
  unfold f_X12_holdsRule_l110
  rcases hc with ⟨h1, h2⟩ | ⟨h1, h2⟩
  · subst h2
    rw [hS, cr_s, h1, if_neg (by decide)]
    unfold f_X12_holdsRule_j153
    rw [hS, cr_s, jn_e, h1, if_pos rfl, show (1 : Int32) = nI 1 from rfl, g1, cr_s, k1, cr_s]
    unfold f_X12_holdsRule_j173
    rw [hS2, cr_s, jn_e, h1, if_neg (by decide), hj]
  · subst h2
    rw [hS, cr_s, h1, if_neg (by decide)]
    unfold f_X12_holdsRule_j153
    rw [hS, cr_s, jn_e, h1, if_neg (by decide)]
    unfold f_X12_holdsRule_j173
    rw [hS, cr_s, jn_e, h1, if_pos rfl, show (2 : Int32) = nI 2 from rfl, g1, cr_s, k1, cr_s, hj]
theorem sB_op {ρ0 : Hp} {Q : Option (Int32 × Hp) → Prop} {p r L k : Nat} {w w' : List Nat} {V V' : List Bool} (hr : r < 16) (hL : ρ0.1 117 r = nI L) (hL40 : L ≤ 40) (hp : p + 1 < L) (hc : (tx (txt ρ0 r) L p = 38 ∧ k = 1) ∨ (tx (txt ρ0 r) L p = 124 ∧ k = 2)) (he : wk k w V = (w', V')) (h : AQ ρ0 r Q (p + 1) (k :: w') V') : BQ ρ0 r Q p w V := by
  intro a1 a2 a3 ρ m f hP hm hf
  obtain ⟨ρ', g1, g2⟩ := F110_op hP hr hL hL40 (by omega) hc he a1 a2 a3
  obtain ⟨l1, l2, l3⟩ := wk_len (show k ≤ 2 by omega) w V
  rw [he] at l1 l2 l3
  match f, hf, m, hm with
  | 0, hf, _, _ => exact absurd hf (by omega)
  | f + 1, hf, 0, hm => exact absurd hm (by omega)
  | f + 1, hf, m + 1, hm =>
    rw [lp_succ, g2, lp_succ, F15_go g1 hr hL hL40 hp]
    refine h (by rw [List.length_cons]; dsimp only at l1; omega) (by dsimp only at l2; omega) ?_ ρ' m FU g1 (by omega) (by rw [FU_e]; omega)
    have := l3 a3
    dsimp only at this
    unfold nb
    rw [if_pos (by omega), this]
    omega
/-- what holds of the answer -/
def Qd (ρ0 : Hp) (b : Bool) (y : Option (Int32 × Hp)) : Prop := ∃ ρ', y = some (oB b, ρ') ∧ fr [86, 120, 121] ρ0 ρ' ∧ ∀ j, j ≠ 43 → j ≠ 44 → j ≠ 45 → ρ'.1 86 j = ρ0.1 86 j
theorem sB_end {ρ0 : Hp} {r L : Nat} {w : List Nat} {V : List Bool} {b : Bool} (hr : r < 16) (hL : ρ0.1 117 r = nI L) (hL40 : L ≤ 40) (he : wk 2 w V = ([], [b])) : BQ ρ0 r (Qd ρ0 b) L w V := by
  intro a1 a2 a3 ρ m f hP hm hf
  have hS := Pic_sign hP hr hL hL40 (by omega)
  have ht : tx (txt ρ0 r) L L = -1 := by unfold tx; rw [if_neg (by omega)]
  have hP2 := Pic_p (q := L + 1) hP
  obtain ⟨ρ1, g1, g2, g3, g4, g5⟩ := Pic_works (m := 2) (by omega) hP2 (by omega) (by omega) a3 he
  match f, hf, m, hm with
  | 0, hf, _, _ => exact absurd hf (by omega)
  | f + 1, hf, 0, hm => exact absurd hm (by omega)
  | f + 1, hf, m + 1, hm =>
    rw [lp_succ]
    have hF : ∀ kl15 K, f_X12_holdsRule_l110 (nI r) (f_X12_holdsRule_j153 (nI r) kl15) K ρ = kl15 (sI ρ 86 43 (nI (L + 1))) := fun kl15 K => by
      unfold f_X12_holdsRule_l110
      rw [hS, cr_s, ht, if_neg (by decide)]
      unfold f_X12_holdsRule_j153
      rw [hS, cr_s, jn_e, ht, if_neg (by decide)]
      unfold f_X12_holdsRule_j173
      rw [hS, cr_s, jn_e, ht, if_neg (by decide)]
      unfold f_X12_holdsRule_j193
      rw [lt_e, hP.1.1, nI_1]
    rw [hF, lp_succ]
    refine ⟨ρ1, ?_, g2.2.2.1, g2.2.2.2⟩
    unfold F15 f_X12_holdsRule_l15
    rw [ldI_n (by omega) (by omega), (Pic_txt hP2 r).2, hL, hP2.1.1, le_t (by omega) (by omega)]
    unfold f_X12_holdsRule_j206 f_X12_holdsRule_j226
    have e0 : ρ1.1 121 0 = oB b := g2.2.1.2.1
    rw [show (2 : Int32) = nI 2 from rfl, g1, cr_s, show (0 : Int32) = nI 0 from rfl, ldI_n (by omega) (by omega), e0, jn_e]
    cases b <;> rfl
