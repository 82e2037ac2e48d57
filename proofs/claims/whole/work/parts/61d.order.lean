/-! ===== the model's search in depth ===== -/
def OnR (ρ : Hp) (m : Nat) : Prop := ∀ k, ρ.1 105 k = bN m k
def FRD (τ ρ : Hp) : Prop := fr [86, 105, 120, 121, 126] τ ρ ∧ ∀ j, j ≠ 43 → j ≠ 44 → j ≠ 45 → ρ.1 86 j = τ.1 86 j
theorem FRD_0 (τ : Hp) : FRD τ τ := ⟨fr_0 _ _, fun _ _ _ _ => rfl⟩
theorem FRD_m {τ ρ ρ' : Hp} (h : FRD τ ρ) (h' : FRM ρ ρ') : FRD τ ρ' := ⟨fr_t h.1 (fr_m (by decide) h'.1), fun j h1 h2 h3 => (h'.2 j h1 h2 h3).trans (h.2 j h1 h2 h3)⟩
theorem FRD_s {τ ρ : Hp} (h : FRD τ ρ) (c j : Nat) (hc : c = 105 ∨ c = 126) (v : Int32) : FRD τ (sI ρ c j v) := by
  refine ⟨fr_s (by rcases hc with rfl | rfl <;> decide) h.1, fun i h1 h2 h3 => ?_⟩
  have e : (sI ρ c j v).1 86 = ρ.1 86 := by rw [sI_1, if_neg (by omega)]
  rw [e]
  exact h.2 i h1 h2 h3
theorem RW_on {mo m : Nat} {σ τ ρ : Hp} (h : RW mo σ τ) (hf : FRD τ ρ) (ho : OnR ρ m) (hm : m < 2 ^ 8) (hb : ∀ j : Nat, (σ.1 1 11).toInt ≤ j → m.testBit j = false) : RW m σ ρ := by
  have e : ∀ a, a ∈ [88, 89, 90, 91, 92, 93, 94, 95, 96, 97, 98, 99, 104, 116, 117, 119] → ρ.1 a = τ.1 a := fun a ha => hf.1 a (fun hb => by revert ha hb; revert a; decide)
  have e2 : ∀ j, j ∈ [20, 21, 22, 23, 38] → ρ.1 86 j = τ.1 86 j := fun j hj => hf.2 j (fun e => by subst e; revert hj; decide) (fun e => by subst e; revert hj; decide) (fun e => by subst e; revert hj; decide)
  obtain ⟨pl, x, k, ⟨hB, hC, hM⟩, ⟨m1, m2, m3⟩, ⟨g1, g2, l1⟩, ⟨u0, u1, u2⟩, hU⟩ := h
  have b2 := hB.1.2.2.1
  have e11 : (σ.1 1 11).toInt = (pl 1 11 : Int) := by rw [hC.1.2.2.1, nI_toInt (by omega)]
  refine ⟨pl, x, k, ⟨hB, hC, ?_⟩, ⟨hm, fun j hj => hb j (by omega), m3⟩, ⟨g1, by rw [e 99 (by decide)]; exact g2, l1⟩, ⟨u0, u1, by rw [e2 23 (by decide)]; exact u2⟩, ?_⟩
  · obtain ⟨⟨q20, q21, q22, q104, q105⟩, hr⟩ := hM
    unfold PM
    rw [e 104 (by decide), e 88 (by decide), e 89 (by decide), e 90 (by decide), e 91 (by decide), e 92 (by decide), e 93 (by decide), e 94 (by decide), e 95 (by decide), e 96 (by decide), e 97 (by decide), e 98 (by decide), e2 20 (by decide), e2 21 (by decide), e2 22 (by decide)]
    exact ⟨⟨q20, q21, q22, q104, ho⟩, hr⟩
  · rw [e 116 (by decide), e 117 (by decide), e 119 (by decide), e2 38 (by decide)]
    exact hU
/-- who may be started, as both say -/
def okF (σ : Hp) (on w p S : Nat) : Bool := !w.testBit p && decide (f_X8_forbidder (nI p) 1 (nI (on ||| S)) σ = some (-9))
theorem m_may {mo on w p S : Nat} {σ τ ρ : Hp} (h : RW mo σ τ) (hf : FRD τ ρ) (ho : OnR ρ (on ||| S)) (hm : on ||| S < 2 ^ 8) (hb : ∀ j : Nat, (σ.1 1 11).toInt ≤ j → (on ||| S).testBit j = false) (hw : ∀ k, τ.1 106 k = bN w k) (hp : p < 8) : ∃ ρ', f_X12_mayStart (nI p) ρ = some (oB (!(on ||| S).testBit p && okF σ on w p S), ρ') ∧ FRM ρ ρ' := by
  have hR := RW_on h hf ho hm hb
  obtain ⟨R, r1, r2, ρ', r3, r4⟩ := FBW (a := nI p) (k := 1) (Or.inr rfl) ⟨by rw [nI_toInt (by omega)]; omega, by rw [nI_toInt (by omega)]; omega⟩ hR
  have h106 : ρ.1 106 p = bN w p := by rw [hf.1 106 (by decide)]; exact hw p
  unfold f_X12_mayStart f_X12_mayStart_j32 f_X12_mayStart_j31 okF
  rw [ldI_n (by omega) (by omega), ho p, jn_e, jn_e, bN_0, r1, ldI_n (by omega) (by omega), h106, bN_0, r3, cl_s]
  cases (on ||| S).testBit p
  · rw [if_neg (by decide)]
    cases w.testBit p
    · rw [if_neg (by decide)]
      rcases r2 with rfl | hR0
      · rw [if_neg (by decide)]
        exact ⟨ρ', rfl, r4⟩
      · have hne : ¬ R = -9 := fun e => by rw [e] at hR0; exact absurd hR0 (by decide)
        rw [if_pos (show (0 : Int32) ≤ R by rw [i32_le, l_0]; exact hR0), decide_eq_false (fun e => hne (Option.some.inj e))]
        exact ⟨ρ', rfl, r4⟩
    · rw [if_pos rfl]
      exact ⟨ρ, rfl, FRM_0 ρ⟩
  · rw [if_pos rfl]
    exact ⟨ρ, rfl, FRM_0 ρ⟩
theorem bit0 {α : Type} {m p : Nat} (hm : m < 2147483648) (hp : p < 31) (x y : α) : (if ((nI m >>> (nI p &&& 31)) &&& (1 : Int32)) = 0 then x else y) = if m.testBit p then y else x := bit0' hm hp x y
theorem FRM_126 {ρ ρ' : Hp} (h : FRM ρ ρ') : ρ'.1 126 = ρ.1 126 ∧ ρ'.1 105 = ρ.1 105 ∧ ρ'.1 86 22 = ρ.1 86 22 := ⟨h.1 126 (by decide), h.1 105 (by decide), h.2 22 (by omega) (by omega) (by omega)⟩
/-- from g on, the first that may be started -/
theorem m_scan {mo on w S set P d : Nat} {σ τ : Hp} (h : RW mo σ τ) (hset : set < 256) (hd : d < 6) (hP : P ≤ 8) (h22 : τ.1 86 22 = nI P) (hs : sub S set) (hdis : ∀ k, set.testBit k = true → on.testBit k = false) (hm : on ||| S < 2 ^ 8) (hb : ∀ j : Nat, (σ.1 1 11).toInt ≤ j → (on ||| S).testBit j = false) (hw : ∀ k, τ.1 106 k = bN w k) (t10 : Int32 × Int32 × Hp) (ht : t10.1 = nI d) : ∀ (e g : Nat) (ρ : Hp) (m : Nat), g + e = P → e < m → FRD τ ρ → OnR ρ (on ||| S) → ρ.1 126 d = nI g → ∃ p ρ', (∀ k109, lp (f_X12_findOrder_l57 (nI set) t10 k109) m ρ = k109 ρ') ∧ g ≤ p ∧ p ≤ P ∧ (p < P → cd (okF σ on w) set p S) ∧ (∀ q, g ≤ q → q < p → ¬ cd (okF σ on w) set q S) ∧ FRD τ ρ' ∧ OnR ρ' (on ||| S) ∧ ρ'.1 126 d = nI p ∧ ∀ j, j ≠ d → ρ'.1 126 j = ρ.1 126 j := by
  intro e
  induction e with
  | zero =>
    intro g ρ m h1 h2 hf ho hg
    match m, h2 with
    | m + 1, h2 =>
      refine ⟨g, ρ, fun k109 => ?_, Nat.le_refl _, by omega, fun hp => absurd hp (by omega), fun q h3 h4 => absurd h4 (by omega), hf, ho, hg, fun _ _ => rfl⟩
      rw [lp_succ]
      generalize lp (f_X12_findOrder_l57 (nI set) t10 k109) m = K
      unfold f_X12_findOrder_l57
      rw [ht, ldI_n (by omega) (by omega), hg, hf.2 22 (by omega) (by omega) (by omega), h22, le_t (by omega) (by omega)]
  | succ e ih =>
    intro g ρ m h1 h2 hf ho hg
    match m, h2 with
    | m + 1, h2 =>
      obtain ⟨ρ1, a1, a2⟩ := m_may h hf ho hm hb hw (p := g) (by omega)
      obtain ⟨f1, f2, f3⟩ := FRM_126 a2
      have hn : ∀ ρ2, ρ2.1 126 = ρ.1 126 → ∀ K, f_X12_findOrder_j96 t10 K ρ2 = K (sI ρ2 126 d (nI (g + 1))) := fun ρ2 h126 K => by
        unfold f_X12_findOrder_j96
        rw [ht, ldI_n (by omega) (by omega), h126, hg, stI_n (by omega) (by omega), nI_1]
      have hgo : ∀ ρ2, FRM ρ ρ2 → ¬ cd (okF σ on w) set g S → ∃ p ρ', (∀ k109, lp (f_X12_findOrder_l57 (nI set) t10 k109) m (sI ρ2 126 d (nI (g + 1))) = k109 ρ') ∧ g ≤ p ∧ p ≤ P ∧ (p < P → cd (okF σ on w) set p S) ∧ (∀ q, g ≤ q → q < p → ¬ cd (okF σ on w) set q S) ∧ FRD τ ρ' ∧ OnR ρ' (on ||| S) ∧ ρ'.1 126 d = nI p ∧ ∀ j, j ≠ d → ρ'.1 126 j = ρ.1 126 j := fun ρ2 hρ2 hnc => by
        obtain ⟨k1, k2, k3⟩ := FRM_126 hρ2
        obtain ⟨p, ρ', b1, b2, b3, b4, b5, b6, b7, b8, b9⟩ := ih (g + 1) (sI ρ2 126 d (nI (g + 1))) m (by omega) (by omega) (FRD_s (FRD_m hf hρ2) 126 d (Or.inr rfl) _) (fun k => by show ρ2.1 105 k = _; rw [k2]; exact ho k) (by show upd (ρ2.1 126) d _ d = _; exact pk_us)
        refine ⟨p, ρ', b1, by omega, b3, b4, fun q h3 h4 => ?_, b6, b7, b8, fun j hj => ?_⟩
        · by_cases e1 : q = g
          · rw [e1]; exact hnc
          · exact b5 q (by omega) h4
        · rw [b9 j hj]
          show upd (ρ2.1 126) d _ j = _
          rw [upd_at, if_neg hj, k1]
      have hF : ∀ k109 K, f_X12_findOrder_l57 (nI set) t10 k109 K ρ = if set.testBit g = true then (if (!(on ||| S).testBit g && okF σ on w g S) = true then k109 ρ1 else K (sI ρ1 126 d (nI (g + 1)))) else K (sI ρ 126 d (nI (g + 1))) := fun k109 K => by
        unfold f_X12_findOrder_l57
        rw [ht, ldI_n (by omega) (by omega), hg, hf.2 22 (by omega) (by omega) (by omega), h22, le_f (by omega) (by omega), ldI_n (by omega) (by omega), hg, jn_e, bit0 (by omega) (by omega), hn ρ rfl, ldI_n (by omega) (by omega), hg, a1, cl_s, hn ρ1 f1, oB_0]
      by_cases c1 : set.testBit g = true
      · have hor : (on ||| S).testBit g = S.testBit g := by rw [Nat.testBit_or, hdis g c1, Bool.false_or]
        rw [hor] at hF
        by_cases c2 : (!S.testBit g && okF σ on w g S) = true
        · have hE : ∀ k109, lp (f_X12_findOrder_l57 (nI set) t10 k109) (m + 1) ρ = k109 ρ1 := fun k109 => by
            rw [lp_succ, hF, if_pos c1, if_pos c2]
          rw [Bool.and_eq_true, Bool.not_eq_true'] at c2
          exact ⟨g, ρ1, hE, Nat.le_refl _, by omega, fun _ => ⟨by omega, c1, c2.1, c2.2⟩, fun q h3 h4 => absurd h4 (by omega), FRD_m hf a2, fun k => by rw [f2]; exact ho k, by rw [f1]; exact hg, fun j _ => by rw [f1]⟩
        · obtain ⟨p, ρ', b1, b2⟩ := hgo ρ1 a2 (fun hc => c2 (by rw [hc.2.2.1, hc.2.2.2]; rfl))
          exact ⟨p, ρ', fun k109 => by rw [lp_succ, hF, if_pos c1, if_neg c2, b1], b2⟩
      · obtain ⟨p, ρ', b1, b2⟩ := hgo ρ (FRM_0 ρ) (fun hc => c1 hc.2.1)
        exact ⟨p, ρ', fun k109 => by rw [lp_succ, hF, if_neg c1, b1], b2⟩
