def AM (τ0 : Hp) (Q : Option (Int32 × Hp) → Prop) (p : Nat) (w : List Nat) : Prop := w.length ≤ 4 → ∀ (τ : Hp) (f : Nat), PicM τ0 τ p w → 45 ≤ f + p → Q (lp f_X12_parses_l68 f τ)
def BM (τ0 : Hp) (Q : Option (Int32 × Hp) → Prop) (p : Nat) (w : List Nat) : Prop := w.length ≤ 4 → ∀ (τ : Hp) (m f : Nat), PicM τ0 τ p w → 45 ≤ m + p → 45 ≤ f + p → Q (lp (f_X12_parses_l155 (f_X12_parses_j198 (lp f_X12_parses_l68 m))) f τ)
theorem cs_le : ∀ w, (cs w).length ≤ w.length
  | [] => Nat.le_refl _
  | c :: w => by
    unfold cs
    have := cs_le w
    split
    · rw [List.length_cons]; omega
    · exact Nat.le_refl _
theorem pm_closes {τ0 : Hp} {p : Nat} : ∀ (w : List Nat) (τ : Hp) (m : Nat), w.length < m → w.length ≤ 8 → PicM τ0 τ p w → ∃ τ', lp f_X12_closes_l0 m τ = some τ' ∧ PicM τ0 τ' p (cs w)
  | w, τ, 0, h, _, _ => absurd h (by omega)
  | [], τ, m + 1, _, _, h => by
    refine ⟨τ, ?_, h⟩
    rw [lp_succ]
    unfold f_X12_closes_l0
    rw [h.1.2, show ∀ y z : Option Hp, (if nI ([] : List Nat).length ≤ 0 then y else z) = y from fun y z => le_t (b := 0) (Nat.le_refl _) (by omega)]
  | c :: w, τ, m + 1, hm, hw, h => by
    rw [List.length_cons] at hm hw
    have e1 : τ.1 86 40 = nI (w.length + 1) := h.1.2
    have hF : ∀ K, f_X12_closes_l0 K τ = if c = 1 then K (sI τ 86 40 (nI w.length)) else some τ := fun K => by
      unfold f_X12_closes_l0
      rw [e1, show ∀ y z : Option Hp, (if nI (w.length + 1) ≤ 0 then y else z) = z from fun y z => le_f (b := 0) (by omega) (by omega), nI_s1, ldI_n (by omega) (by omega), h.2.1.1, lt_e]
      by_cases e : c = 1
      · rw [if_pos e, if_pos (show nI c = 1 by rw [e]; rfl)]
      · have := h.2.1.2.1
        rw [if_neg e, if_neg (show ¬ nI c = (1 : Int32) from fun g => e ((nI_eq (b := 1) (by omega) (by omega)).1 g))]
    rw [lp_succ, hF]
    unfold cs
    by_cases e : c = 1
    · rw [if_pos e, if_pos e]
      exact pm_closes w _ m (by omega) (by omega) (PicM_pop h)
    · rw [if_neg e, if_neg e]
      exact ⟨τ, rfl, h⟩
theorem mA_open {τ0 : Hp} {Q : Option (Int32 × Hp) → Prop} {p L c : Nat} {w : List Nat} (hL : τ0.1 86 37 = nI L) (hL40 : L ≤ 40) (hw : w.length < 4) (hc : (tx (τ0.1 115) L p = 33 ∧ c = 1) ∨ (tx (τ0.1 115) L p = 40 ∧ c = 2)) (h : AM τ0 Q (p + 1) (c :: w)) : AM τ0 Q p w := by
  intro hw4 τ f hP hf
  have hp : p < L := tx_lt (fun e => by rw [e] at hc; rcases hc with ⟨h1, -⟩ | ⟨h1, -⟩ <;> exact absurd h1 (by decide))
  have hS := pm_sign hP hL hL40 (by omega)
  have hF : ∀ K, f_X12_parses_l68 K τ = K (sI (sI (sI τ 118 w.length (nI c)) 86 40 (nI (w.length + 1))) 86 39 (nI (p + 1))) := fun K => by
    have hj : ∀ x : Int32, x = nI c → f_X12_parses_j118 τ K x = K (sI (sI (sI τ 118 w.length (nI c)) 86 40 (nI (w.length + 1))) 86 39 (nI (p + 1))) := fun x hx => by
      subst hx
      unfold f_X12_parses_j118
      rw [hP.1.2, stI_n (by omega) (by omega), lt_e, lt_e, show (sI τ 118 w.length (nI c)).1 86 40 = τ.1 86 40 from rfl, hP.1.2, nI_1, show (sI (sI τ 118 w.length (nI c)) 86 40 (nI (w.length + 1))).1 86 39 = τ.1 86 39 from rfl, hP.1.1, nI_1]
    unfold f_X12_parses_l68
    simp only [hS, cr_s, jn_e]
    unfold f_X12_parses_j86
    simp only [hS, cr_s, jn_e]
    rw [hP.1.2, if_neg (show ¬ nI w.length = (4 : Int32) from fun g => absurd ((nI_eq (b := 4) (by omega) (by omega)).1 g) (by omega))]
    rcases hc with ⟨h1, h2⟩ | ⟨h1, h2⟩
    · rw [h1, if_pos rfl, if_pos rfl]
      exact hj 1 (by rw [h2]; rfl)
    · rw [h1, if_neg (by decide), if_pos rfl, if_neg (by decide)]
      exact hj 2 (by rw [h2]; rfl)
  match f, hf with
  | 0, hf => exact absurd hf (by omega)
  | f + 1, hf =>
    rw [lp_succ, hF]
    exact h (by rw [List.length_cons]; omega) _ f (PicM_p (PicM_push (by omega) hP) (p + 1)) (by omega)
theorem mA_full {τ0 : Hp} {Q : Option (Int32 × Hp) → Prop} {p L : Nat} {w : List Nat} (hL : τ0.1 86 37 = nI L) (hL40 : L ≤ 40) (hw : w.length = 4) (hp : p ≤ L) (hc : tx (τ0.1 115) L p = 33 ∨ tx (τ0.1 115) L p = 40) (h : ∀ y, Qm τ0 0 p y → Q y) : AM τ0 Q p w := by
  intro hw4 τ f hP hf
  have hS := pm_sign hP hL hL40 (by omega)
  match f, hf with
  | 0, hf => exact absurd hf (by omega)
  | f + 1, hf =>
    rw [lp_succ]
    apply h
    generalize lp f_X12_parses_l68 f = K
    unfold f_X12_parses_l68
    simp only [hS, cr_s, jn_e]
    unfold f_X12_parses_j86
    rw [hP.1.2, hw, if_pos (show nI 4 = (4 : Int32) from rfl), ckZ_0]
    rcases hc with h1 | h1
    · rw [h1, if_pos rfl]; exact Qm_of hP 0
    · rw [h1, if_neg (by decide), if_pos rfl]; exact Qm_of hP 0
theorem mA_cmp {τ0 : Hp} {Q : Option (Int32 × Hp) → Prop} {p L : Nat} {w : List Nat} (hL : τ0.1 86 37 = nI L) (hL40 : L ≤ 40) (hp : p ≤ L) (h33 : tx (τ0.1 115) L p ≠ 33) (h40 : tx (τ0.1 115) L p ≠ 40) (h0 : (sCmp (τ0.1 115) L p).2 = none → ∀ y, Qm τ0 0 (sCmp (τ0.1 115) L p).1 y → Q y) (h1 : ∀ s, (sCmp (τ0.1 115) L p).2 = some s → p < (sCmp (τ0.1 115) L p).1 ∧ BM τ0 Q (sCmp (τ0.1 115) L p).1 (cs w)) : AM τ0 Q p w := by
  intro hw4 τ f hP hf
  have hS := pm_sign hP hL hL40 (by omega)
  obtain ⟨τ1, k1, k2, k3, k4⟩ := pm_cmp hL hL40 hp hP
  match f, hf with
  | 0, hf => exact absurd hf (by omega)
  | f + 1, hf =>
    rw [lp_succ]
    match hx : (sCmp (τ0.1 115) L p).2 with
    | none =>
      apply h0 hx
      generalize lp f_X12_parses_l68 f = K
      unfold f_X12_parses_l68
      rw [hx] at k1
      simp only [hS, cr_s, jn_e]
      rw [if_neg h33, if_neg h40, k1, cl_s]
      exact Qm_of k2 0
    | some s =>
      obtain ⟨g1, g2⟩ := h1 s hx
      obtain ⟨τ2, c1, c2⟩ := pm_closes w τ1 FU (by rw [FU_e]; omega) (by omega) k2
      have hF : ∀ K, f_X12_parses_l68 K τ = lp (f_X12_parses_l155 (f_X12_parses_j198 K)) FU τ2 := fun K => by
        unfold f_X12_parses_l68
        rw [hx] at k1
        simp only [hS, cr_s, jn_e]
        rw [if_neg h33, if_neg h40, k1, cl_s]
        unfold f_X12_closes
        rw [c1, cr_s]
        exact z1z _ _
      rw [hF]
      have := cs_le w
      exact g2 (by omega) τ2 f FU c2 (by omega) (by rw [FU_e]; omega)
theorem mB_close {τ0 : Hp} {Q : Option (Int32 × Hp) → Prop} {p L c : Nat} {w : List Nat} (hL : τ0.1 86 37 = nI L) (hL40 : L ≤ 40) (hc : tx (τ0.1 115) L p = 41) (h : BM τ0 Q (p + 1) (cs w)) : BM τ0 Q p (c :: w) := by
  intro hw4 τ m f hP hm hf
  rw [List.length_cons] at hw4
  have hp : p < L := tx_lt (by rw [hc]; decide)
  have hS := pm_sign hP hL hL40 (by omega)
  have hP2 : PicM τ0 (sI (sI τ 86 39 (nI (p + 1))) 86 40 (nI w.length)) (p + 1) w := PicM_pop (PicM_p hP (p + 1))
  obtain ⟨τ2, c1, c2⟩ := pm_closes w _ FU (by rw [FU_e]; omega) (by omega) hP2
  have e1 : τ.1 86 40 = nI (w.length + 1) := hP.1.2
  have hF : ∀ k198 K, f_X12_parses_l155 k198 K τ = K τ2 := fun k198 K => by
    unfold f_X12_parses_l155
    rw [hS, cr_s, if_pos hc, e1, show ∀ y z : Option (Int32 × Hp), (if nI (w.length + 1) ≤ 0 then y else z) = z from fun y z => le_f (b := 0) (by omega) (by omega), hP.1.1, nI_1, lt_e, lt_e, show (sI τ 86 39 (nI (p + 1))).1 86 40 = τ.1 86 40 from rfl, e1, nI_s1]
    unfold f_X12_closes
    rw [c1, cr_s]
  match f, hf with
  | 0, hf => exact absurd hf (by omega)
  | f + 1, hf =>
    rw [lp_succ, hF]
    have := cs_le w
    exact h (by omega) τ2 m f c2 (by omega) (by omega)
theorem mB_op {τ0 : Hp} {Q : Option (Int32 × Hp) → Prop} {p L : Nat} {w : List Nat} (hL : τ0.1 86 37 = nI L) (hL40 : L ≤ 40) (hc : tx (τ0.1 115) L p = 38 ∨ tx (τ0.1 115) L p = 124) (h : AM τ0 Q (p + 1) w) : BM τ0 Q p w := by
  intro hw4 τ m f hP hm hf
  have hp : p < L := tx_lt (fun e => by rw [e] at hc; rcases hc with h1 | h1 <;> exact absurd h1 (by decide))
  have hS := pm_sign hP hL hL40 (by omega)
  have hF : ∀ kl68 K, f_X12_parses_l155 (f_X12_parses_j198 kl68) K τ = kl68 (sI τ 86 39 (nI (p + 1))) := fun kl68 K => by
    unfold f_X12_parses_l155 f_X12_parses_j198 f_X12_parses_j215 f_X12_parses_j235
    simp only [hS, cr_s, jn_e, lt_e, hP.1.1, nI_1]
    rcases hc with h1 | h1
    · rw [h1, if_neg (by decide), if_neg (by decide), if_neg (by decide), if_pos rfl]
    · rw [h1, if_neg (by decide), if_neg (by decide), if_pos rfl]
  match f, hf with
  | 0, hf => exact absurd hf (by omega)
  | f + 1, hf =>
    rw [lp_succ, hF]
    exact h hw4 _ m (PicM_p hP (p + 1)) (by omega)
theorem mB_fail {τ0 : Hp} {Q : Option (Int32 × Hp) → Prop} {p L : Nat} {w : List Nat} (hL : τ0.1 86 37 = nI L) (hL40 : L ≤ 40) (hp : p ≤ L) (h38 : tx (τ0.1 115) L p ≠ 38) (h124 : tx (τ0.1 115) L p ≠ 124) (h41 : tx (τ0.1 115) L p = 41 → w = []) (he : tx (τ0.1 115) L p = -1 → w ≠ []) (h : ∀ y, Qm τ0 0 p y → Q y) : BM τ0 Q p w := by
  intro hw4 τ m f hP hm hf
  have hS := pm_sign hP hL hL40 (by omega)
  match f, hf with
  | 0, hf => exact absurd hf (by omega)
  | f + 1, hf =>
    rw [lp_succ]
    apply h
    have hj : f_X12_parses_j198 (lp f_X12_parses_l68 m) τ = some (0, τ) := by
      generalize lp f_X12_parses_l68 m = K
      unfold f_X12_parses_j198 f_X12_parses_j215 f_X12_parses_j235
      simp only [hS, cr_s, jn_e, lt_e, ckZ_0, ckZ_1]
      rw [if_neg h38, if_neg h124]
      by_cases e : tx (τ0.1 115) L p = -1
      · rw [if_pos e, hP.1.2, if_neg (nI_ne0 (List.length_pos_iff.2 (he e)) (by omega))]
      · rw [if_neg e]
    generalize lp (f_X12_parses_l155 (f_X12_parses_j198 (lp f_X12_parses_l68 m))) f = K
    unfold f_X12_parses_l155
    rw [hS, cr_s, hj]
    by_cases e : tx (τ0.1 115) L p = 41
    · rw [if_pos e, hP.1.2, h41 e, show ∀ y z : Option (Int32 × Hp), (if nI ([] : List Nat).length ≤ 0 then y else z) = y from fun y z => le_t (b := 0) (Nat.le_refl _) (by omega)]
      exact Qm_of hP 0
    · rw [if_neg e]; exact Qm_of hP 0
theorem mB_done {τ0 : Hp} {Q : Option (Int32 × Hp) → Prop} {L : Nat} (hL : τ0.1 86 37 = nI L) (hL40 : L ≤ 40) (h : ∀ y, Qm τ0 1 L y → Q y) : BM τ0 Q L [] := by
  intro hw4 τ m f hP hm hf
  have hS := pm_sign hP hL hL40 (by omega)
  have ht : tx (τ0.1 115) L L = -1 := by unfold tx; rw [if_neg (by omega)]
  match f, hf with
  | 0, hf => exact absurd hf (by omega)
  | f + 1, hf =>
    rw [lp_succ]
    apply h
    have hj : f_X12_parses_j198 (lp f_X12_parses_l68 m) τ = some (1, τ) := by
      generalize lp f_X12_parses_l68 m = K
      unfold f_X12_parses_j198
      rw [hS, cr_s, jn_e, if_pos ht, hP.1.2, if_pos (show nI ([] : List Nat).length = 0 from rfl), ckZ_1]
    generalize lp (f_X12_parses_l155 (f_X12_parses_j198 (lp f_X12_parses_l68 m))) f = K
    unfold f_X12_parses_l155
    rw [hS, cr_s, hj, if_neg (by rw [ht]; decide)]
    exact Qm_of hP 1
