theorem pc_mono {T s : Nat} (h : sub T s) : ∀ k, pcN T k ≤ pcN s k
  | 0 => Nat.le_refl _
  | k + 1 => by
    have h1 := pc_mono h k
    have h2 := h k
    unfold pcN
    cases e : T.testBit k
    · cases e2 : s.testBit k
      · simp only [Bool.false_eq_true, if_false]; omega
      · simp only [Bool.false_eq_true, if_false, if_true]; omega
    · rw [h2 e]
      simp only [if_true]; omega
theorem pc_full {T s : Nat} (hs : s < 256) (h : sub T s) (he : pcN s 8 ≤ pcN T 8) : T = s := by
  apply Classical.byContradiction
  intro hne
  have hex : ∃ p, s.testBit p = true ∧ T.testBit p = false := by
    apply Classical.byContradiction
    intro hn
    apply hne
    apply Nat.eq_of_testBit_eq
    intro j
    cases e1 : s.testBit j
    · cases e2 : T.testBit j
      · rfl
      · rw [h j e2] at e1; cases e1
    · cases e2 : T.testBit j
      · exact absurd ⟨j, e1, e2⟩ hn
      · rfl
  obtain ⟨p, p1, p2⟩ := hex
  have hp8 : p < 8 := by
    apply Nat.lt_of_not_le
    intro hh
    rw [tb_big (b := 8) (by omega) hh] at p1
    cases p1
  have hT := sub_le h
  have h1 := pc_or T (by omega) p hp8 p2
  have h2 := pc_mono (sub_or h p1) 8
  omega
def Cc : Nat → Nat
  | 0 => 0
  | r + 1 => 9 * (1 + Cc r)
def GrF (al : Nat → Nat → Bool) (set g S : Nat) (l : List Nat) : Prop := ∃ p l', l = p :: l' ∧ g ≤ p ∧ cd al set p S ∧ (∀ q, g ≤ q → q < p → cd al set q S → ¬ can al set (S ||| 2 ^ q)) ∧ Gr al set (S ||| 2 ^ p) l'
theorem m_dfs {mo on w set P n : Nat} {σ τ : Hp} (h : RW mo σ τ) (hset : set < 256) (hon : on < 256) (hn : n ≤ 6) (hnn : n = pcN set 8) (hP : P ≤ 8) (h11 : (σ.1 1 11).toInt = (P : Int)) (h22 : τ.1 86 22 = nI P) (hdis : ∀ k, set.testBit k = true → on.testBit k = false) (hbon : ∀ j, P ≤ j → on.testBit j = false) (hbset : ∀ j, set.testBit j = true → j < P) (hw : ∀ k, τ.1 106 k = bN w k) (k173 : Int32 × Hp → Option (Int32 × Hp)) : ∀ r d S, d + r + 1 = n → sub S set → pcN S 8 = d → ∀ e g ρ, g + e = P → DSt τ ρ on S g d →
    (∃ l ρ', Reach (f_X12_findOrder_l17 (nI set) (nI n) k173) ((e + 1) * (1 + Cc r)) (nI d, 0, ρ) (nI (n - 1), 1, ρ') ∧ FRD τ ρ' ∧ OnR ρ' (on ||| set) ∧ (∀ j, j < d → ρ'.1 126 j = ρ.1 126 j) ∧ (∀ j p, l[j]? = some p → ρ'.1 126 (d + j) = nI p) ∧ GrF (okF σ on w) set g S l) ∨
    (∃ ρ', Reach (f_X12_findOrder_l17 (nI set) (nI n) k173) ((e + 1) * (1 + Cc r)) (nI d, 0, ρ) (nI d + (-1), 0, ρ') ∧ FRD τ ρ' ∧ OnR ρ' (on ||| S) ∧ (∀ j, j < d → ρ'.1 126 j = ρ.1 126 j) ∧ ∀ p, g ≤ p → cd (okF σ on w) set p S → ¬ can (okF σ on w) set (S ||| 2 ^ p)) := by
  intro r
  induction r with
  | zero =>
    intro d S h1 hs hpc e g ρ hge hD
    have hSl := sub_le hs
    have hm : on ||| S < 2 ^ 8 := Nat.or_lt_two_pow (by omega) (by omega)
    have hb : ∀ j : Nat, (σ.1 1 11).toInt ≤ j → (on ||| S).testBit j = false := fun j hj => by
      rw [Nat.testBit_or, hbon j (by omega), Bool.false_or]
      cases hx : S.testBit j
      · rfl
      · have := hbset j (hs j hx); omega
    rcases m_turn h hset (by omega) hn hP h22 hs hdis hm hb hw (by omega) hD k173 with ⟨ρ', b1, b2, b3, b4, b5⟩ | ⟨p, ρ', b1, b2, b3, b4, b5, b6, b7, b8, b9⟩
    · right
      refine ⟨ρ', reach_m (reach_1 b1) (Nat.le_trans (show 1 ≤ 1 + Cc 0 by omega) (Nat.le_mul_of_pos_left _ (by omega))), b2, b3, b4, fun p hp hc => absurd hc (b5 p hp (hbset p hc.2.1))⟩
    · left
      have hfull : S ||| 2 ^ p = set := pc_full hset (sub_or hs b3.2.1) (by rw [pc_or S (by omega) p b3.1 b3.2.2.1]; omega)
      refine ⟨[p], ρ', reach_m (reach_1 (s' := (nI (n - 1), 1, ρ')) (fun K => by rw [b9, if_pos (by omega), show n - 1 = d by omega])) (Nat.le_trans (show 1 ≤ 1 + Cc 0 by omega) (Nat.le_mul_of_pos_left _ (by omega))), b5, by rw [hfull] at b6; exact b6, b7, fun j q hj => ?_, p, [], rfl, b1, b3, fun q h3 h4 hc => absurd hc (b4 q h3 h4), hfull⟩
      cases j with
      | zero =>
        rw [List.getElem?_cons_zero] at hj
        rw [← Option.some.inj hj, Nat.add_zero]
        exact b8
      | succ j => rw [List.getElem?_cons_succ, List.getElem?_nil] at hj; cases hj
  | succ r ih =>
    intro d S h1 hs hpc e
    induction e using Nat.strongRecOn with
    | _ e ihe =>
      intro g ρ hge hD
      have hSl := sub_le hs
      have hm : on ||| S < 2 ^ 8 := Nat.or_lt_two_pow (by omega) (by omega)
      have hb : ∀ j : Nat, (σ.1 1 11).toInt ≤ j → (on ||| S).testBit j = false := fun j hj => by
        rw [Nat.testBit_or, hbon j (by omega), Bool.false_or]
        cases hx : S.testBit j
        · rfl
        · have := hbset j (hs j hx); omega
      rcases m_turn h hset (by omega) hn hP h22 hs hdis hm hb hw (by omega) hD k173 with ⟨ρ', b1, b2, b3, b4, b5⟩ | ⟨p, ρ', b1, b2, b3, b4, b5, b6, b7, b8, b9⟩
      · right
        refine ⟨ρ', reach_m (reach_1 b1) (Nat.le_trans (show 1 ≤ 1 + Cc (r + 1) by omega) (Nat.le_mul_of_pos_left _ (by omega))), b2, b3, b4, fun p hp hc => absurd hc (b5 p hp (hbset p hc.2.1))⟩
      · have hs2 := sub_or hs b3.2.1
        have hpc2 : pcN (S ||| 2 ^ p) 8 = d + 1 := by rw [pc_or S (by omega) p b3.1 b3.2.2.1, hpc]
        have hR1 : Reach (f_X12_findOrder_l17 (nI set) (nI n) k173) 1 (nI d, 0, ρ) (nI (d + 1), 0, sI ρ' 126 (d + 1) (-1)) := reach_1 (fun K => by rw [b9, if_neg (by omega), if_pos (by omega)])
        have hX : (P + 1) * (1 + Cc r) ≤ 9 * (1 + Cc r) := Nat.mul_le_mul_right _ (by omega)
        have hcj : ∀ j, j < d + 1 → (sI ρ' 126 (d + 1) (-1)).1 126 j = ρ'.1 126 j := fun j hj => by
          show upd (ρ'.1 126) (d + 1) _ j = _
          rw [upd_at, if_neg (by omega)]
        have hE : (e + 1) * (1 + Cc (r + 1)) = e * (1 + Cc (r + 1)) + (1 + Cc (r + 1)) := Nat.succ_mul _ _
        have hCc : Cc (r + 1) = 9 * (1 + Cc r) := rfl
        rcases ih (d + 1) (S ||| 2 ^ p) (by omega) hs2 hpc2 P 0 (sI ρ' 126 (d + 1) (-1)) (by omega) ⟨FRD_s b5 126 _ (Or.inr rfl) _, by show upd (ρ'.1 126) (d + 1) _ (d + 1) = _; exact pk_us, b6, fun hne => absurd rfl hne⟩ with ⟨l, ρ2, c1, c2, c3, c4, c5, p', l', c6, c7, c8, c9, c10⟩ | ⟨ρ2, c1, c2, c3, c4, c5⟩
        · left
          refine ⟨p :: l, ρ2, reach_m (reach_t hR1 c1) (by omega), c2, c3, fun j hj => by rw [c4 j (by omega), hcj j (by omega), b7 j hj], fun j q hj => ?_, p, l, rfl, b1, b3, fun q h3 h4 hc => absurd hc (b4 q h3 h4), ?_⟩
          · cases j with
            | zero =>
              rw [List.getElem?_cons_zero] at hj
              rw [← Option.some.inj hj, Nat.add_zero, c4 d (by omega), hcj d (by omega)]
              exact b8
            | succ j =>
              rw [List.getElem?_cons_succ] at hj
              rw [show d + (j + 1) = d + 1 + j by omega]
              exact c5 j q hj
          · rw [c6]
            exact ⟨⟨c8, fun q hq hc => c9 q (Nat.zero_le _) hq hc⟩, c10⟩
        · have hnc : ¬ can (okF σ on w) set (S ||| 2 ^ p) := fun hcan => by
            rcases can_inv hcan with g1 | ⟨q, g1, g2⟩
            · rw [g1] at hpc2; omega
            · exact c5 q (Nat.zero_le _) g1 g2
          have hR2 : Reach (f_X12_findOrder_l17 (nI set) (nI n) k173) (1 + (P + 1) * (1 + Cc r)) (nI d, 0, ρ) (nI d, 0, ρ2) := by
            have := reach_t hR1 c1
            rw [pk_m1] at this
            exact this
          have hD2 : DSt τ ρ2 on S (p + 1) d := by
            refine ⟨c2, ?_, ?_, fun _ => ?_⟩
            · rw [c4 d (by omega), hcj d (by omega), b8]
              unfold gI
              rw [if_neg (by omega)]
              rfl
            · unfold onG
              rw [if_neg (by omega), Nat.add_sub_cancel, Nat.or_assoc]
              exact c3
            · rw [Nat.add_sub_cancel, Nat.testBit_or, hdis p b3.2.1, b3.2.2.1]; rfl
          have hmul : (P - p - 1 + 1) * (1 + Cc (r + 1)) ≤ e * (1 + Cc (r + 1)) := Nat.mul_le_mul_right _ (by omega)
          have hj2 : ∀ j, j < d → ρ2.1 126 j = ρ.1 126 j := fun j hj => by rw [c4 j (by omega), hcj j (by omega), b7 j hj]
          rcases ihe (P - p - 1) (by omega) (p + 1) ρ2 (by omega) hD2 with ⟨l, ρ3, a1, a2, a3, a4, a5, p', l', a6, a7, a8, a9, a10⟩ | ⟨ρ3, a1, a2, a3, a4, a5⟩
          · left
            refine ⟨l, ρ3, reach_m (reach_t hR2 a1) (by omega), a2, a3, fun j hj => by rw [a4 j hj, hj2 j hj], a5, p', l', a6, by omega, a8, fun q h3 h4 hc => ?_, a10⟩
            by_cases e1 : q < p
            · exact absurd hc (b4 q h3 e1)
            · by_cases e2 : q = p
              · rw [e2]; exact hnc
              · exact a9 q (by omega) h4 hc
          · right
            refine ⟨ρ3, reach_m (reach_t hR2 a1) (by omega), a2, a3, fun j hj => by rw [a4 j hj, hj2 j hj], fun q h3 hc => ?_⟩
            by_cases e1 : q < p
            · exact absurd hc (b4 q h3 e1)
            · by_cases e2 : q = p
              · rw [e2]; exact hnc
              · exact a5 q (by omega) hc
