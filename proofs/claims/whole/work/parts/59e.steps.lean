/-! ===== the model's reading, step by step ===== -/
def F15 (r : Nat) : (Hp → Option (Int32 × Hp)) → Hp → Option (Int32 × Hp) := f_X12_holdsRule_l15 (nI r) f_X12_holdsRule_j206
/-- from an operand on; from behind an operand on -/
def AQ (ρ0 : Hp) (r : Nat) (Q : Option (Int32 × Hp) → Prop) (p : Nat) (w : List Nat) (V : List Bool) : Prop := w.length ≤ p → V.length ≤ p → V.length = nb w → ∀ (ρ : Hp) (m f : Nat), Pic ρ0 ρ p w V → 45 ≤ m + p → 45 ≤ f + p → Q (lp (f_X12_holdsRule_l28 (nI r) (f_X12_holdsRule_j81 (nI r) (lp (F15 r) m))) f ρ)
def BQ (ρ0 : Hp) (r : Nat) (Q : Option (Int32 × Hp) → Prop) (p : Nat) (w : List Nat) (V : List Bool) : Prop := w.length ≤ p → V.length ≤ p → V.length = nb w + 1 → ∀ (ρ : Hp) (m f : Nat), Pic ρ0 ρ p w V → 45 ≤ m + p → 45 ≤ f + p → Q (lp (f_X12_holdsRule_l110 (nI r) (f_X12_holdsRule_j153 (nI r) (lp (F15 r) m))) f ρ)
theorem Pic_txt {ρ0 ρ : Hp} {p : Nat} {w : List Nat} {V : List Bool} (h : Pic ρ0 ρ p w V) (r : Nat) : txt ρ r = txt ρ0 r ∧ ρ.1 117 = ρ0.1 117 := by
  have e : ρ.1 116 = ρ0.1 116 := h.2.2.1 116 (by decide)
  exact ⟨by unfold txt; rw [e], h.2.2.1 117 (by decide)⟩
theorem Pic_sign {ρ0 ρ : Hp} {p r L : Nat} {w : List Nat} {V : List Bool} (h : Pic ρ0 ρ p w V) (hr : r < 16) (hL : ρ0.1 117 r = nI L) (hL40 : L ≤ 40) (hp : p < 1000000) : f_X12_signOf (nI r) ρ = some (tx (txt ρ0 r) L p) := by
  obtain ⟨e1, e2⟩ := Pic_txt h r
  rw [← e1]
  exact m_sign hr (by rw [e2]; exact hL) hL40 h.1.1 hp
theorem Pic_RW {mo : Nat} {σ ρ0 ρ : Hp} {p : Nat} {w : List Nat} {V : List Bool} (hR : RW mo σ ρ0) (h : Pic ρ0 ρ p w V) : RW mo σ ρ :=
  RW_keep hR (fun a ha => h.2.2.1 a (fun hb => by revert ha hb; revert a; decide)) (fun j hj => h.2.2.2 j (fun e => by subst e; revert hj; decide) (fun e => by subst e; revert hj; decide) (fun e => by subst e; revert hj; decide))
theorem m_waits {ρ0 ρ : Hp} {p c : Nat} {w : List Nat} {V : List Bool} (h : Pic ρ0 ρ p w V) (hw : w.length < 40) (hc : c ≤ 9) : ∃ ρ', f_X12_waitsFor (nI c) ρ = some ρ' ∧ Pic ρ0 ρ' p (c :: w) V := by
  refine ⟨_, ?_, Pic_pushW hc h⟩
  unfold f_X12_waitsFor
  rw [h.1.2.1, stI_n (by omega) (by omega), lt_e, show (sI ρ 120 w.length (nI c)).1 86 44 = ρ.1 86 44 from rfl, h.1.2.1, nI_1]
theorem F28_open {ρ0 ρ : Hp} {p r L c : Nat} {w : List Nat} {V : List Bool} (h : Pic ρ0 ρ p w V) (hr : r < 16) (hL : ρ0.1 117 r = nI L) (hL40 : L ≤ 40) (hw : w.length < 40) (hp : p < 1000000) (k81 K : Hp → Option (Int32 × Hp)) (hc : (tx (txt ρ0 r) L p = 33 ∧ c = 0) ∨ (tx (txt ρ0 r) L p = 40 ∧ c = 9)) : ∃ ρ', Pic ρ0 ρ' (p + 1) (c :: w) V ∧ f_X12_holdsRule_l28 (nI r) k81 K ρ = K ρ' := by
  obtain ⟨ρ1, g1, g2⟩ := m_waits (c := c) h hw (by omega)
  refine ⟨sI ρ1 86 43 (nI (p + 1)), Pic_p g2, ?_⟩
  have hS := Pic_sign h hr hL hL40 hp
  unfold f_X12_holdsRule_l28 f_X12_holdsRule_j48 f_X12_holdsRule_j65
  rw [hS, cr_s, jn_e, cr_s, jn_e, cr_s]
  rcases hc with ⟨h1, h2⟩ | ⟨h1, h2⟩
  · subst h2
    rw [h1, if_pos rfl, if_pos rfl]
    dsimp only
    rw [show (0 : Int32) = nI 0 from rfl, g1, cr_s, lt_e, g2.1.1, nI_1]
  · subst h2
    rw [h1, if_neg (by decide), if_pos rfl, if_neg (by decide)]
    dsimp only
    rw [show (9 : Int32) = nI 9 from rfl, g1, cr_s, lt_e, g2.1.1, nI_1]
theorem sA_open {ρ0 : Hp} {Q : Option (Int32 × Hp) → Prop} {p r L c : Nat} {w : List Nat} {V : List Bool} (hr : r < 16) (hL : ρ0.1 117 r = nI L) (hL40 : L ≤ 40) (hc : (tx (txt ρ0 r) L p = 33 ∧ c = 0) ∨ (tx (txt ρ0 r) L p = 40 ∧ c = 9)) (h : AQ ρ0 r Q (p + 1) (c :: w) V) : AQ ρ0 r Q p w V := by
  intro a1 a2 a3 ρ m f hP hm hf
  have hp : p < L := tx_lt (fun e => by rw [e] at hc; rcases hc with ⟨h1, -⟩ | ⟨h1, -⟩ <;> exact absurd h1 (by decide))
  match f, hf with
  | 0, hf => exact absurd hf (by omega)
  | f + 1, hf =>
    rw [lp_succ]
    obtain ⟨ρ', g1, g2⟩ := F28_open hP hr hL hL40 (by omega) (by omega) (f_X12_holdsRule_j81 (nI r) (lp (F15 r) m)) (lp (f_X12_holdsRule_l28 (nI r) (f_X12_holdsRule_j81 (nI r) (lp (F15 r) m))) f) hc
    rw [g2]
    refine h (by rw [List.length_cons]; omega) (by omega) ?_ ρ' m f g1 (by omega) (by omega)
    unfold nb
    rw [if_neg (by omega), a3]
    omega
theorem F28_cmp {mo : Nat} {σ ρ0 : Hp} (hR : RW mo σ ρ0) {ρ : Hp} {p q r L : Nat} {s : List Int32} {w : List Nat} {V : List Bool} (h : Pic ρ0 ρ p w V) (hr : r < 16) (hL : ρ0.1 117 r = nI L) (hL40 : L ≤ 40) (h33 : tx (txt ρ0 r) L p ≠ 33) (h40 : tx (txt ρ0 r) L p ≠ 40) (hw : w.length ≤ p) (hV : V.length ≤ p) (hnb : V.length = nb w) (hs : sCmp (txt ρ0 r) L p = (q, some s)) : p < q ∧ q ≤ L ∧ ∃ c, s = [c] ∧ c &&& 3 = 3 ∧ (¬ (48 ≤ (tx (txt ρ0 r) L q).toInt ∧ (tx (txt ρ0 r) L q).toInt ≤ 57) → ∃ ρ', Pic ρ0 ρ' q (wk 0 w (evC mo σ c :: V)).1 (wk 0 w (evC mo σ c :: V)).2 ∧ ∀ kl15 K, f_X12_holdsRule_l28 (nI r) (f_X12_holdsRule_j81 (nI r) kl15) K ρ = lp (f_X12_holdsRule_l110 (nI r) (f_X12_holdsRule_j153 (nI r) kl15)) FU ρ') := by
  obtain ⟨e1, e2⟩ := Pic_txt h r
  rw [← e1] at hs
  obtain ⟨g1, g2, c, g3, g4, g5⟩ := m_cmp (Pic_RW hR h) hr (by rw [e2]; exact hL) hL40 h.1.1 hs
  refine ⟨g1, g2, c, g3, g4, fun hq => ?_⟩
  rw [e1] at g5
  have g6 := g5 hq
  have hP1 := Pic_pushV (b := evC mo σ c) (Pic_p (q := q) h)
  obtain ⟨ρ', w1, w2⟩ := m_works (ρ0 := ρ0) (p := q) (m := 0) (by omega) w (evC mo σ c :: V) _ FU (by rw [FU_e]; omega) (by omega) (by rw [List.length_cons]; omega) (by rw [List.length_cons]; omega) hP1
  refine ⟨ρ', w2, fun kl15 K => ?_⟩
  have hS := Pic_sign h hr hL hL40 (by omega)
  unfold f_X12_holdsRule_l28
  rw [hS, cr_s, jn_e, if_neg h33, cr_s, if_neg h40]
  unfold f_X12_holdsRule_j81
  rw [g6, cl_s, h.1.2.2, stI_n (by omega) (by omega), lt_e, show (sI (sI ρ 86 43 (nI q)) 121 V.length (oB (evC mo σ c))).1 86 45 = ρ.1 86 45 from rfl, h.1.2.2, nI_1]
  unfold f_X12_works
  rw [show (0 : Int32) = nI 0 from rfl, w1, cr_s, jn_e]
theorem sA_cmp {mo : Nat} {σ ρ0 : Hp} (hR : RW mo σ ρ0) {Q : Option (Int32 × Hp) → Prop} {p q r L : Nat} {s : List Int32} {w : List Nat} {V : List Bool} (hr : r < 16) (hL : ρ0.1 117 r = nI L) (hL40 : L ≤ 40) (h33 : tx (txt ρ0 r) L p ≠ 33) (h40 : tx (txt ρ0 r) L p ≠ 40) (hs : sCmp (txt ρ0 r) L p = (q, some s)) (hq : ¬ (48 ≤ (tx (txt ρ0 r) L q).toInt ∧ (tx (txt ρ0 r) L q).toInt ≤ 57)) {c : Int32} (hc : s = [c]) (h : BQ ρ0 r Q q (wk 0 w (evC mo σ c :: V)).1 (wk 0 w (evC mo σ c :: V)).2) : AQ ρ0 r Q p w V := by
  intro a1 a2 a3 ρ m f hP hm hf
  obtain ⟨g1, g2, c', g3, g4, g5⟩ := F28_cmp hR hP hr hL hL40 h33 h40 a1 a2 a3 hs
  obtain rfl : c = c' := by rw [hc] at g3; exact (List.cons.inj g3).1
  obtain ⟨ρ', g6, g7⟩ := g5 hq
  obtain ⟨l1, l2, l3⟩ := wk_len (show 0 ≤ 2 by omega) w (evC mo σ c :: V)
  rw [List.length_cons] at l2 l3
  match f, hf with
  | 0, hf => exact absurd hf (by omega)
  | f + 1, hf =>
    rw [lp_succ, g7]
    exact h (by omega) (by omega) (l3 (by omega)) ρ' m FU g6 (by omega) (by rw [FU_e]; omega)
