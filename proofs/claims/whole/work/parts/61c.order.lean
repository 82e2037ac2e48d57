theorem pc_or : ∀ S, S < 256 → ∀ p, p < 8 → S.testBit p = false → pcN (S ||| 2 ^ p) 8 = pcN S 8 + 1 := by decide +kernel
theorem pth_len {al : Nat → Nat → Bool} {set : Nat} (hset : set < 256) : ∀ l S, sub S set → Pth al set S l → l.length + pcN S 8 = pcN set 8
  | [], S, hs, h => by
    have e : S = set := h
    rw [e, List.length_nil, Nat.zero_add]
  | p :: l, S, hs, h => by
    have h1 := pth_len hset l (S ||| 2 ^ p) (sub_or hs h.1.2.1) h.2
    rw [pc_or S (by have := sub_le hs; omega) p h.1.1 h.1.2.2.1] at h1
    rw [List.length_cons]
    omega
theorem gr_pth {al : Nat → Nat → Bool} {set : Nat} : ∀ l S, Gr al set S l → Pth al set S l
  | [], S, h => h
  | p :: l, S, h => ⟨h.1.1, gr_pth l _ h.2⟩
theorem pc_le (m : Nat) : ∀ k, pcN m k ≤ k
  | 0 => Nat.le_refl _
  | k + 1 => by
    have := pc_le m k
    unfold pcN
    split <;> omega
/-- the i-th of the order, or none -/
def OrdA (al : Nat → Nat → Bool) (set i : Nat) (r : Int32) : Prop := (∃ l, Gr al set 0 l ∧ ((∃ p, l[i]? = some p ∧ r = nI p) ∨ (l.length ≤ i ∧ r = -9))) ∨ (¬ can al set 0 ∧ r = -9)
theorem gr_step {al : Nat → Nat → Bool} {set S p : Nat} {l : List Nat} (h : Gr al set S l) (hc : cd al set p S) (hcan : can al set (S ||| 2 ^ p)) (hl : ∀ q, q < p → cd al set q S → ¬ can al set (S ||| 2 ^ q)) : ∃ l', l = p :: l' ∧ Gr al set (S ||| 2 ^ p) l' := by
  cases l with
  | nil =>
    have e : S = set := h
    have h1 := hc.2.1
    have h2 := hc.2.2.1
    rw [e, h1] at h2
    cases h2
  | cons q l' =>
    obtain ⟨⟨h1, h2⟩, h3⟩ := h
    have e : q = p := by
      rcases Nat.lt_trichotomy q p with g | g | g
      · exact absurd ⟨l', gr_pth _ _ h3⟩ (hl q g h1)
      · exact g
      · exact absurd hcan (h2 p g hc)
    rw [e] at h3
    exact ⟨l', by rw [e], h3⟩
theorem gr_none {al : Nat → Nat → Bool} {set S : Nat} {l : List Nat} (h : Gr al set S l) (hn : ∀ p, cd al set p S → ¬ can al set (S ||| 2 ^ p)) : l = [] := by
  cases l with
  | nil => rfl
  | cons q l' => exact absurd ⟨l', gr_pth _ _ h.2⟩ (hn q h.1.1)
/-- what the class asks of its rules, whatever its table of ends holds -/
def FC (al : Nat → Nat → Bool) (set on : Nat) (σ : Hp) : Prop := ∀ σ', (∀ a, a ≠ 53 → σ'.1 a = σ.1 a) → ∀ S, sub S set → ∀ p, p < 8 → set.testBit p = true → ∃ R, f_X8_forbidder (nI p) 1 (nI (on ||| S)) σ' = some R ∧ al p S = decide (R = -9)
theorem ord_walk {al : Nat → Nat → Bool} {set on i : Nat} {σ : Hp} (hset : set < 256) (hon : on < 256) (hi : i < 2147483648) (hE : ∀ T, 0 < T → sub T set → σ.1 53 T = oB (canB al set T)) (hF : ∀ S, sub S set → ∀ p, p < 8 → set.testBit p = true → ∃ R, f_X8_forbidder (nI p) 1 (nI (on ||| S)) σ = some R ∧ al p S = decide (R = -9)) : ∀ (d k S m : Nat) (l : List Nat), d + k = i → d < m → sub S set → Gr al set S l → ∀ v : Int32, ((v = -9 ∧ l = []) ∨ ∃ p l', l = p :: l' ∧ v = nI p) → ∃ r, lp (f_X10_nth_l102 (nI set) (nI i) (nI on) σ) m (nI S, v, nI k) = some (r, σ) ∧ ((∃ p, l[d]? = some p ∧ r = nI p) ∨ (l.length ≤ d ∧ r = -9)) := by
  intro d
  induction d with
  | zero =>
    intro k S m l h1 h2 hs hg v hv
    match m, h2 with
    | m + 1, h2 =>
      rw [lp_succ]
      unfold f_X10_nth_l102
      dsimp only
      rw [le_t (by omega) (by omega)]
      refine ⟨v, rfl, ?_⟩
      rcases hv with ⟨e1, e2⟩ | ⟨p, l', e1, e2⟩
      · right; rw [e2]; exact ⟨Nat.le_refl _, e1⟩
      · left; rw [e1]; exact ⟨p, rfl, e2⟩
  | succ d ih =>
    intro k S m l h1 h2 hs hg v hv
    match m, h2 with
    | m + 1, h2 =>
      rw [lp_succ]
      rcases hv with ⟨e1, e2⟩ | ⟨p, l', e1, e2⟩
      · refine ⟨-9, ?_, Or.inr ⟨by rw [e2]; exact Nat.zero_le _, rfl⟩⟩
        generalize lp (f_X10_nth_l102 (nI set) (nI i) (nI on) σ) m = K
        unfold f_X10_nth_l102
        dsimp only
        rw [le_f (by omega) (by omega), if_pos e1, e1]
      · subst e1
        obtain ⟨⟨c1, c2⟩, c3⟩ := hg
        have hs2 := sub_or hs c1.2.1
        have hlt := sub_le hs2
        have hlt1 := sub_le hs
        have h2p := two16 (p := p) (by have := c1.1; omega)
        have hp8 := c1.1
        obtain ⟨r, n1, n2⟩ := ord_next hset hon hs2 (fun q hq hq1 hq2 => hE _ (by have := or_gt hq2; omega) (sub_or hs2 hq1)) (hF _ hs2)
        have hF1 : ∀ K, f_X10_nth_l102 (nI set) (nI i) (nI on) σ K (nI S, v, nI k) = K (nI (S ||| 2 ^ p), r, nI (k + 1)) := fun K => by
          unfold f_X10_nth_l102
          dsimp only
          rw [le_f (by omega) (by omega), e2, if_neg (show ¬ nI p = (-9 : Int32) from fun g => by
            have := congrArg Int32.toInt g
            rw [nI_toInt (by omega)] at this
            revert this
            show ¬ (p : Int) = -9
            omega), shl16 p (by omega), nI_or (by omega) (by omega), lt_e, n1, cr_s, lt_e, nI_1]
        rw [hF1]
        obtain ⟨r', w1, w2⟩ := ih (k + 1) (S ||| 2 ^ p) m l' (by omega) (by omega) hs2 c3 r (by
          rcases n2 with ⟨a1, a2⟩ | ⟨q, a1, a2, a3, a4⟩
          · exact Or.inl ⟨a1, gr_none c3 a2⟩
          · obtain ⟨l'', b1, b2⟩ := gr_step c3 a2 a3 a4
            exact Or.inr ⟨q, l'', b1, a1⟩)
        refine ⟨r', w1, ?_⟩
        rcases w2 with ⟨q, q1, q2⟩ | ⟨q1, q2⟩
        · exact Or.inl ⟨q, by rw [List.getElem?_cons_succ]; exact q1, q2⟩
        · exact Or.inr ⟨by rw [List.length_cons]; omega, q2⟩
theorem ord_nth {al : Nat → Nat → Bool} {set on w i : Nat} {σ : Hp} (hset : set < 256) (hon : on < 256) (hw : w < 256) (hi : i < 2147483648) (hal : ∀ p S, w.testBit p = true → al p S = false) (hF : set &&& w = 0 → FC al set on σ) : ∃ r σ', f_X10_nth (nI set) (nI i) (nI on) (nI w) σ = some (r, σ') ∧ (∀ a, a ≠ 53 → σ'.1 a = σ.1 a) ∧ OrdA al set i r := by
  unfold f_X10_nth
  by_cases h0 : set = 0
  · subst h0
    rw [show ∀ y z : Option (Int32 × Hp), (if nI 0 ≤ (0 : Int32) then y else z) = y from fun y z => le_t (b := 0) (Nat.le_refl _) (by omega)]
    exact ⟨-9, σ, rfl, fun _ _ => rfl, Or.inl ⟨[], rfl, Or.inr ⟨Nat.zero_le _, rfl⟩⟩⟩
  rw [show ∀ y z : Option (Int32 × Hp), (if nI set ≤ (0 : Int32) then y else z) = z from fun y z => le_f (b := 0) (by omega) (by omega), show ∀ y z : Option (Int32 × Hp), (if (256 : Int32) ≤ nI set then y else z) = z from fun y z => le_f (a := 256) (by omega) (by omega), nI_and (by omega) (by omega)]
  by_cases h1 : set &&& w = 0
  · rw [h1, if_pos (show nI 0 = 0 from rfl)]
    have hF := hF h1
    by_cases h2 : i < 8
    · rw [if_pos (show nI i < (8 : Int32) from (nI_ltI (b := 8) (by omega) (by omega)).2 h2), stZ_n (by omega) (by omega), lt_e, jn_e, show nI set - 1 = nI (set - 1) from pk_sub (a := set) (b := 1) (by omega)]
      refine lp_q (Q := fun y => ∃ (r : Int32) (σ' : Hp), y = some (r, σ') ∧ (∀ a, a ≠ 53 → σ'.1 a = σ.1 a) ∧ OrdA al set i r) (fun k (s : Int32 × Hp) => s.1 = nI k ∧ k < set ∧ (∀ a, a ≠ 53 → s.2.1 a = σ.1 a) ∧ ∀ T, k < T → sub T set → s.2.1 53 T = oB (canB al set T)) ?_ FU (set - 1) (nI (set - 1), sI σ 53 set (vp_nar .boolean 1)) (by rw [FU_e]; omega) ⟨rfl, by omega, fun a ha => by rw [sI_1, if_neg ha], fun T hT hs => ?_⟩
      · rintro k ⟨x, ρ⟩ ⟨k1, k2, k3, k4⟩ K
        obtain rfl : x = nI k := k1
        dsimp only at k3 k4
        cases k with
        | zero =>
          refine Or.inl ?_
          unfold f_X10_nth_l41 f_X10_nth_j86
          dsimp only
          rw [show ∀ y z : Option (Int32 × Hp), (if nI 0 ≤ (0 : Int32) then y else z) = y from fun y z => le_t (b := 0) (Nat.le_refl _) (by omega)]
          have hE : ∀ T, 0 < T → sub T set → ρ.1 53 T = oB (canB al set T) := k4
          have hFr := hF ρ k3
          have h0s : sub 0 set := fun k hk => by rw [Nat.zero_testBit] at hk; cases hk
          obtain ⟨r, n1, n2⟩ := ord_next (al := al) (S := 0) hset hon h0s (fun q hq hq1 hq2 => hE _ (by have := or_gt hq2; omega) (sub_or h0s hq1)) (hFr 0 h0s)
          rw [show (0 : Int32) = nI 0 from rfl, n1, cr_s]
          by_cases hc : can al set 0
          · obtain ⟨l, hl⟩ := can_gr set 0 (by omega) h0s hc
            obtain ⟨r', w1, w2⟩ := ord_walk hset hon hi hE hFr i 0 0 FU l (by omega) (by rw [FU_e]; omega) h0s hl r (by
              rcases n2 with ⟨a1, a2⟩ | ⟨q, a1, a2, a3, a4⟩
              · exact Or.inl ⟨a1, gr_none hl a2⟩
              · obtain ⟨l'', b1, b2⟩ := gr_step hl a2 a3 a4
                exact Or.inr ⟨q, l'', b1, a1⟩)
            exact ⟨r', ρ, w1, k3, Or.inl ⟨l, hl, w2⟩⟩
          · refine ⟨-9, ρ, ?_, k3, Or.inr ⟨hc, rfl⟩⟩
            rcases n2 with ⟨a1, a2⟩ | ⟨q, a1, a2, a3, a4⟩
            · obtain ⟨M, hM, hl⟩ := lp_FU
              rw [hl]
              generalize lp (f_X10_nth_l102 (nI set) (nI i) (nI on) ρ) M = K2
              unfold f_X10_nth_l102
              dsimp only
              rw [a1, if_pos rfl]
              split <;> rfl
            · exact absurd (can_step a2 a3) hc
        | succ k =>
          refine Or.inr ⟨k, ?_⟩
          have hand : ∀ y z : Option (Int32 × Hp), (if (nI (k + 1) &&& (nI set ^^^ (-1 : Int32))) = 0 then y else z) = if (k + 1) &&& (set ^^^ (2 ^ 32 - 1)) = 0 then y else z := fun y z => by
            have hx : set ^^^ (2 ^ 32 - 1) < 2 ^ 32 := Nat.xor_lt_two_pow (by omega) (by omega)
            have hle : (k + 1) &&& (set ^^^ (2 ^ 32 - 1)) ≤ k + 1 := Nat.and_le_left
            rw [show (-1 : Int32) = nI (2 ^ 32 - 1) from rfl, nI_xor (by omega) (by omega), nI_and (by omega) hx]
            by_cases e : (k + 1) &&& (set ^^^ (2 ^ 32 - 1)) = 0
            · rw [e, if_pos rfl]; exact if_pos rfl
            · rw [if_neg e, if_neg (nI_ne0 (by omega) (by omega))]
          have hsub : sub (k + 1) set ↔ (k + 1) &&& (set ^^^ (2 ^ 32 - 1)) = 0 := by
            constructor
            · intro h
              apply Nat.eq_of_testBit_eq
              intro j
              rw [Nat.testBit_and, Nat.testBit_xor, Nat.testBit_two_pow_sub_one, Nat.zero_testBit]
              cases e : (k + 1).testBit j
              · rfl
              · have hj : j < 8 := by
                  apply Nat.lt_of_not_le
                  intro hh
                  rw [tb_big (b := 8) (by omega) hh] at e
                  cases e
                rw [h j e, decide_eq_true (show j < 32 by omega)]; rfl
            · intro h j hj
              have h2 := congrArg (fun x => Nat.testBit x j) h
              have hj8 : j < 8 := by
                apply Nat.lt_of_not_le
                intro hh
                rw [tb_big (b := 8) (by omega) hh] at hj
                cases hj
              rw [Nat.testBit_and, Nat.testBit_xor, Nat.testBit_two_pow_sub_one, Nat.zero_testBit, hj, decide_eq_true (show j < 32 by omega), Bool.true_and, Bool.xor_true] at h2
              cases hb : set.testBit j
              · rw [hb] at h2; cases h2
              · rfl
          have hK : ∀ ρ', f_X10_nth_j80 (nI (k + 1), ρ) K ρ' = K (nI k, ρ') := fun ρ' => by
            unfold f_X10_nth_j80
            rw [lt_e, pk_m1]
          by_cases e : sub (k + 1) set
          · obtain ⟨r, n1, n2⟩ := ord_next (σ := ρ) hset hon e (fun q hq hq1 hq2 => k4 _ (by have := or_gt hq2; omega) (sub_or e hq1)) (hF ρ k3 _ e)
            have hcan : oB (canB al set (k + 1)) = if r = -9 then 0 else 1 := by
              rcases n2 with ⟨a1, a2⟩ | ⟨q, a1, a2, a3, a4⟩
              · rw [if_pos a1]
                cases hb : canB al set (k + 1)
                · rfl
                · rcases can_inv (canB_t.1 hb) with g | ⟨p, g1, g2⟩
                  · omega
                  · exact absurd g2 (a2 p g1)
              · have hq8 := a2.1
                rw [if_neg (fun g => by
                  rw [a1] at g
                  have := congrArg Int32.toInt g
                  rw [nI_toInt (by omega)] at this
                  revert this
                  show ¬ (q : Int) = -9
                  omega), canB_t.2 (can_step a2 a3)]
                rfl
            refine ⟨(nI k, sI ρ 53 (k + 1) (oB (canB al set (k + 1)))), by omega, ⟨rfl, by omega, fun a ha => by rw [sI_1, if_neg ha]; exact k3 a ha, fun T hT hs => ?_⟩, ?_⟩
            · show upd (ρ.1 53) (k + 1) _ T = _
              rw [upd_at]
              by_cases eT : T = k + 1
              · rw [if_pos eT, eT]
              · rw [if_neg eT]; exact k4 T (by omega) hs
            · unfold f_X10_nth_l41
              dsimp only
              rw [show ∀ y z : Option (Int32 × Hp), (if nI (k + 1) ≤ (0 : Int32) then y else z) = z from fun y z => le_f (b := 0) (by omega) (by omega), jn_e, hand, if_pos (hsub.1 e), n1, cr_s, jn_e]
              unfold f_X10_nth_j79
              dsimp only
              rw [stZ_n (by omega) (by omega), stZ_n (by omega) (by omega), hK, hK, hcan]
              by_cases er : r = -9
              · rw [if_pos er, if_pos er]; rfl
              · rw [if_neg er, if_neg er]; rfl
          · refine ⟨(nI k, ρ), by omega, ⟨rfl, by omega, k3, fun T hT hs => ?_⟩, ?_⟩
            · by_cases eT : T = k + 1
              · rw [eT] at hs; exact absurd hs e
              · exact k4 T (by omega) hs
            · unfold f_X10_nth_l41
              dsimp only
              rw [show ∀ y z : Option (Int32 × Hp), (if nI (k + 1) ≤ (0 : Int32) then y else z) = z from fun y z => le_f (b := 0) (by omega) (by omega), jn_e, hand, if_neg (fun g => e (hsub.2 g)), hK]
      · show upd (σ.1 53) set (vp_nar .boolean 1) T = _
        have hle := sub_le hs
        have eT : T = set := by omega
        rw [eT, pk_us, canB_t.2 (can_set al set)]
        rfl
    · rw [if_neg (show ¬ nI i < (8 : Int32) from fun g => h2 ((nI_ltI (b := 8) (by omega) (by omega)).1 g))]
      refine ⟨-9, σ, rfl, fun _ _ => rfl, ?_⟩
      have h0s : sub 0 set := fun k hk => by rw [Nat.zero_testBit] at hk; cases hk
      by_cases hc : can al set 0
      · obtain ⟨l, hl⟩ := can_gr set 0 (by omega) h0s hc
        have := pth_len hset l 0 h0s (gr_pth l 0 hl)
        have := pc_le set 8
        exact Or.inl ⟨l, hl, Or.inr ⟨by omega, rfl⟩⟩
      · exact Or.inr ⟨hc, rfl⟩
  · have hle : set &&& w ≤ set := Nat.and_le_left
    rw [if_neg (nI_ne0 (by omega) (by omega))]
    refine ⟨-9, σ, rfl, fun _ _ => rfl, Or.inr ⟨fun ⟨l, hl⟩ => ?_, rfl⟩⟩
    have hex : ∃ q, set.testBit q = true ∧ w.testBit q = true := by
      apply Classical.byContradiction
      intro hn
      apply h1
      apply Nat.eq_of_testBit_eq
      intro j
      rw [Nat.testBit_and, Nat.zero_testBit]
      cases e1 : set.testBit j
      · rfl
      · cases e2 : w.testBit j
        · rfl
        · exact absurd ⟨j, e1, e2⟩ hn
    obtain ⟨q, q1, q2⟩ := hex
    obtain ⟨S', hS'⟩ := pth_al q1 l 0 hl (Nat.zero_testBit q)
    rw [hal q S' q2] at hS'
    cases hS'
