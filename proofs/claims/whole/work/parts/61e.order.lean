/-! ===== one turn of the search, and the whole ===== -/
def Reach {α β : Type} (F : (β → Option α) → β → Option α) (B : Nat) (s s' : β) : Prop := ∃ N, N ≤ B ∧ ∀ f, lp F (f + N) s = lp F f s'
theorem reach_1 {α β : Type} {F : (β → Option α) → β → Option α} {s s' : β} (h : ∀ K, F K s = K s') : Reach F 1 s s' := ⟨1, Nat.le_refl _, fun f => by rw [lp_succ, h]⟩
theorem reach_t {α β : Type} {F : (β → Option α) → β → Option α} {B B' : Nat} {s s' s'' : β} (h : Reach F B s s') (h' : Reach F B' s' s'') : Reach F (B + B') s s'' := by
  obtain ⟨N, n1, n2⟩ := h
  obtain ⟨N', n1', n2'⟩ := h'
  refine ⟨N' + N, by omega, fun f => ?_⟩
  rw [← Nat.add_assoc, n2, n2']
theorem reach_m {α β : Type} {F : (β → Option α) → β → Option α} {B B' : Nat} {s s' : β} (h : Reach F B s s') (hB : B ≤ B') : Reach F B' s s' := by
  obtain ⟨N, n1, n2⟩ := h
  exact ⟨N, by omega, n2⟩
def onG (on S g : Nat) : Nat := if g = 0 then on ||| S else (on ||| S) ||| 2 ^ (g - 1)
def gI (g : Nat) : Int32 := if g = 0 then -1 else nI (g - 1)
/-- at a depth, the next to be tried being g -/
def DSt (τ ρ : Hp) (on S g d : Nat) : Prop := FRD τ ρ ∧ ρ.1 126 d = gI g ∧ OnR ρ (onG on S g) ∧ (g ≠ 0 → (on ||| S).testBit (g - 1) = false)
theorem m_turn {mo on w S set P d g n : Nat} {σ τ ρ : Hp} (h : RW mo σ τ) (hset : set < 256) (hd : d < 6) (hn : n ≤ 6) (hP : P ≤ 8) (h22 : τ.1 86 22 = nI P) (hs : sub S set) (hdis : ∀ k, set.testBit k = true → on.testBit k = false) (hm : on ||| S < 2 ^ 8) (hb : ∀ j : Nat, (σ.1 1 11).toInt ≤ j → (on ||| S).testBit j = false) (hw : ∀ k, τ.1 106 k = bN w k) (hg : g ≤ P) (hD : DSt τ ρ on S g d) (k173 : Int32 × Hp → Option (Int32 × Hp)) :
    (∃ ρ', (∀ K, f_X12_findOrder_l17 (nI set) (nI n) k173 K (nI d, 0, ρ) = K (nI d + (-1), 0, ρ')) ∧ FRD τ ρ' ∧ OnR ρ' (on ||| S) ∧ (∀ j, j < d → ρ'.1 126 j = ρ.1 126 j) ∧ ∀ q, g ≤ q → q < P → ¬ cd (okF σ on w) set q S) ∨
    (∃ p ρ', g ≤ p ∧ p < P ∧ cd (okF σ on w) set p S ∧ (∀ q, g ≤ q → q < p → ¬ cd (okF σ on w) set q S) ∧ FRD τ ρ' ∧ OnR ρ' (on ||| (S ||| 2 ^ p)) ∧ (∀ j, j < d → ρ'.1 126 j = ρ.1 126 j) ∧ ρ'.1 126 d = nI p ∧ ∀ K, f_X12_findOrder_l17 (nI set) (nI n) k173 K (nI d, 0, ρ) = if d + 1 = n then K (nI d, 1, ρ') else if d + 1 < 6 then K (nI (d + 1), 0, sI ρ' 126 (d + 1) (-1)) else none) := by
  obtain ⟨D1, D2, D3, D4⟩ := hD
  -- the heap behind the turning off
  obtain ⟨ρ0, e0, e1, e2, e3⟩ : ∃ ρ0, (∀ (k47 : Hp → Option (Int32 × Hp)), (if gI g < 0 then k47 ρ else ldI ρ 126 6 (nI d) fun v32 => stZ ρ 105 8 v32 (0 : Int32) fun σ33 => k47 σ33) = k47 ρ0) ∧ FRD τ ρ0 ∧ OnR ρ0 (on ||| S) ∧ ρ0.1 126 = ρ.1 126 := by
    by_cases c : g = 0
    · subst c
      refine ⟨ρ, fun k47 => if_pos (by decide), D1, ?_, rfl⟩
      unfold onG at D3
      rw [if_pos rfl] at D3
      exact D3
    · refine ⟨sI ρ 105 (g - 1) 0, fun k47 => ?_, FRD_s D1 105 _ (Or.inl rfl) _, fun k => ?_, rfl⟩
      · have eg : gI g = nI (g - 1) := if_neg c
        rw [eg, if_neg (nI_pos (by omega)), ldI_n (by omega) (by omega), D2, eg, stZ_n (by omega) (by omega)]
        rfl
      · show upd (ρ.1 105) (g - 1) 0 k = _
        unfold onG at D3
        rw [if_neg c] at D3
        rw [upd_at]
        by_cases ek : k = g - 1
        · rw [if_pos ek, ek]
          unfold bN
          rw [D4 c]; rfl
        · rw [if_neg ek, D3 k]
          unfold bN
          rw [or_t, decide_eq_false ek, Bool.or_false]
  have hdg : ρ0.1 126 d = gI g := by rw [e3]; exact D2
  have hinc : gI g + 1 = nI g := by
    unfold gI
    by_cases c : g = 0
    · rw [if_pos c, c]; decide
    · rw [if_neg c, nI_1, show g - 1 + 1 = g by omega]
  have hF0 : ∀ K, f_X12_findOrder_l17 (nI set) (nI n) k173 K (nI d, 0, ρ) = lp (f_X12_findOrder_l57 (nI set) (nI d, 0, ρ) (f_X12_findOrder_j109 (nI n) (nI d, 0, ρ) K)) FU (sI ρ0 126 d (nI g)) := fun K => by
    unfold f_X12_findOrder_l17
    dsimp only
    rw [if_neg (nI_pos (by omega)), if_pos rfl, ldI_n (by omega) (by omega), D2, jn_e, e0]
    unfold f_X12_findOrder_j47
    dsimp only
    rw [ldI_n (by omega) (by omega), hdg, stI_n (by omega) (by omega), hinc, jn_e]
  have hD0 : FRD τ (sI ρ0 126 d (nI g)) := FRD_s e1 126 d (Or.inr rfl) _
  have hO0 : OnR (sI ρ0 126 d (nI g)) (on ||| S) := e2
  have hg0 : (sI ρ0 126 d (nI g)).1 126 d = nI g := by show upd (ρ0.1 126) d _ d = _; exact pk_us
  have hj0 : ∀ j, j ≠ d → (sI ρ0 126 d (nI g)).1 126 j = ρ.1 126 j := fun j hj => by
    show upd (ρ0.1 126) d _ j = _
    rw [upd_at, if_neg hj, e3]
  have hscan := m_scan h hset hd hP h22 hs hdis hm hb hw (nI d, 0, ρ) rfl (P - g) g (sI ρ0 126 d (nI g)) FU (by omega) (by rw [FU_e]; omega) hD0 hO0 hg0
  obtain ⟨p, ρ1, hrun, b2, b3, b4, b5, b6, b7, b8, b9⟩ := hscan
  have hj1 : ∀ j, j < d → ρ1.1 126 j = ρ.1 126 j := fun j hj => by rw [b9 j (by omega), hj0 j (by omega)]
  have h22' : ρ1.1 86 22 = nI P := by rw [b6.2 22 (by omega) (by omega) (by omega)]; exact h22
  by_cases hp : p < P
  · right
    have hc := b4 hp
    refine ⟨p, sI ρ1 105 p 1, b2, hp, hc, b5, FRD_s b6 105 p (Or.inl rfl) 1, fun k => ?_, hj1, b8, fun K => ?_⟩
    · show upd (ρ1.1 105) p 1 k = _
      rw [upd_at]
      unfold bN
      rw [Nat.testBit_or, or_t]
      by_cases ek : k = p
      · rw [if_pos ek, decide_eq_true ek, Bool.or_true, Bool.or_true]; rfl
      · rw [if_neg ek, decide_eq_false ek, Bool.or_false, ← Nat.testBit_or, b7 k]; rfl
    · rw [hF0, hrun]
      unfold f_X12_findOrder_j109
      dsimp only
      rw [ldI_n (by omega) (by omega), b8, h22', if_pos ((nI_ltI (by omega) (by omega)).2 hp), ldI_n (by omega) (by omega), b8, stZ_n (by omega) (by omega), show vp_nar .boolean (1 : Int32) = 1 from rfl]
      by_cases hdn : d + 1 = n
      · rw [if_pos hdn, if_pos (by rw [← hdn]; exact nI_s1.symm)]
      · rw [if_neg hdn, if_neg (show ¬ nI d = nI n - 1 from fun e => by
          by_cases n0 : n = 0
          · subst n0
            have := congrArg Int32.toInt e
            rw [nI_toInt (by omega)] at this
            revert this
            show ¬ (d : Int) = -1
            omega
          · rw [show nI n - 1 = nI (n - 1) from pk_sub (a := n) (b := 1) (by omega)] at e
            have := (nI_eq (by omega) (by omega)).1 e
            omega), lt_e, nI_1]
        by_cases hd6 : d + 1 < 6
        · rw [if_pos hd6, stI_n (by omega) (by omega)]
        · rw [if_neg hd6]
          unfold stI
          rw [if_pos (Or.inr (by rw [nI_clamp (by omega)]; omega))]
  · left
    obtain rfl : p = P := by omega
    refine ⟨sI ρ1 126 d (-1), fun K => ?_, FRD_s b6 126 d (Or.inr rfl) _, b7, fun j hj => ?_, b5⟩
    · rw [hF0, hrun]
      unfold f_X12_findOrder_j109
      dsimp only
      rw [ldI_n (by omega) (by omega), b8, h22', if_neg (nI_nlt (Nat.le_refl _) (by omega)), stI_n (by omega) (by omega), lt_e]
    · show upd (ρ1.1 126) d _ j = _
      rw [upd_at, if_neg (by omega)]
      exact hj1 j hj
