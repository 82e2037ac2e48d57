theorem m_plan1 {pl : Nat → Nat → Nat} (hB : PB pl) {τ : Hp} (hM : PM τ pl) {no : Nat} {os ov oc : Nat → Nat} (h80 : τ.1 86 80 = nI no) (hno : no ≤ 6) (hof : ∀ k, k < no → (τ.1 149 k = nI (os k) ∧ τ.1 150 k = nI (ov k) ∧ os k < pl 1 0 ∧ ov k ≤ 9) ∧ τ.1 151 k = nI (oc k) ∧ oc k ≤ 999) {m : Nat} (hm : m ≤ 9999) {sv : Nat → Bool} (hsv : ∀ S, sv S = true ↔ svP pl os ov no m S) (a2 : Int32) : ∃ τ', lp (f_X12_plan_l46 (nI m) (f_X12_plan_j137 a2)) FU ((-1 : Int32), (0 : Int32), (0 : Int32), τ) = some (if (pS sv (fun S => prN oc S no) (2 ^ no)).1.isSome = true then (if a2 = 0 then nI (pS sv (fun S => prN oc S no) (2 ^ no)).2 else cB (pS sv (fun S => prN oc S no) (2 ^ no)).1) else -9, τ') ∧ fr [129, 130, 131] τ τ' := by
  have hn := hB.1.1
  have hpr : ∀ S, prN oc S no ≤ 5994 := fun S => by
    have := prN_le (oc := oc) (S := S) no (fun j hj => (hof j hj).2.2)
    omega
  have h64 : 2 ^ no ≤ 64 := Nat.pow_le_pow_right (n := 2) (j := 6) (by omega) hno
  generalize hpr0 : (fun S => prN oc S no) = pr at *
  have hpe : ∀ S, prN oc S no = pr S := fun S => by rw [← hpr0]
  have hpr' : ∀ S, pr S ≤ 5994 := fun S => by rw [← hpe]; exact hpr S
  have hbd := pS_bd (sv := sv) hpr'
  refine lp_n (Q := fun y => ∃ τ' : Hp, y = some (if (pS sv pr (2 ^ no)).1.isSome = true then (if a2 = 0 then nI (pS sv pr (2 ^ no)).2 else cB (pS sv pr (2 ^ no)).1) else -9, τ') ∧ fr [129, 130, 131] τ τ') (2 ^ no) (fun S s => s.1 = mB (pS sv pr S).1 ∧ s.2.1 = nI (pS sv pr S).2 ∧ s.2.2.1 = nI S ∧ fr [129, 130, 131] τ s.2.2.2) ?_ ?_ 0 (Nat.zero_le _) (by omega) ⟨rfl, rfl, rfl, fr_0 _ _⟩
  · rintro S ⟨x1, x2, x3, ξ⟩ hS ⟨g1, g2, g3, g4⟩ K
    obtain rfl : x1 = mB (pS sv pr S).1 := g1
    obtain rfl : x2 = nI (pS sv pr S).2 := g2
    obtain rfl : x3 = nI S := g3
    have g4 : fr [129, 130, 131] τ ξ := g4
    have hMx := PM_fr (l := [129, 130, 131]) (by decide) g4 hM
    have f80 : ξ.1 86 80 = nI no := by rw [g4 86 (by decide)]; exact h80
    have f151 : ∀ k, k < no → ξ.1 151 k = nI (oc k) := fun k hk => by rw [g4 151 (by decide)]; exact (hof k hk).2.1
    obtain ⟨b, ζ, s1, s2, s3⟩ := m_holdsDown hB hMx f80 hno (fun k hk => by
      rw [g4 149 (by decide), g4 150 (by decide)]; exact (hof k hk).1) (S := S) (m := m) (by omega) hm
    have hb : b = sv S := by
      cases b <;> cases e : sv S
      · rfl
      · exact absurd (s3.2 ((hsv S).1 e)) (by decide)
      · have := (hsv S).2 (s3.1 rfl)
        rw [e] at this
        cases this
      · rfl
    have hb64 : ∀ b, (pS sv pr S).1 = some b → b < 64 := fun b h => by have := (hbd S).1 b h; omega
    have hb2 := (hbd S).2
    have hpS := hpr' S
    have hst : pS sv pr (S + 1) = if ((pS sv pr S).1.isSome = true ∧ (pS sv pr S).2 ≤ pr S) ∨ sv S = false then pS sv pr S else (some S, pr S) := rfl
    have h98 : f_X12_plan_j98 (nI m) (mB (pS sv pr S).1, nI (pS sv pr S).2, nI S, ξ) K (nI (pr S)) = if (pS sv pr S).1.isSome = true ∧ (pS sv pr S).2 ≤ pr S then K (mB (pS sv pr S).1, nI (pS sv pr S).2, nI (S + 1), ξ) else if sv S = true then K (nI S, nI (pr S), nI (S + 1), ζ) else K (mB (pS sv pr S).1, nI (pS sv pr S).2, nI (S + 1), ζ) := by
      unfold f_X12_plan_j98 f_X12_plan_j131 f_X12_plan_j110
      dsimp only
      rw [jn_e, jn_e, s1, cl_s, hb, mB_0 hb64, oB_0, nI_1]
      by_cases c1 : (pS sv pr S).1.isSome = true
      · rw [if_pos c1]
        by_cases c2 : (pS sv pr S).2 ≤ pr S
        · rw [le_t c2 (by omega), if_pos (show (pS sv pr S).1.isSome = true ∧ (pS sv pr S).2 ≤ pr S from ⟨c1, c2⟩)]; rfl
        · rw [le_f (by omega) (by omega), if_neg (show ¬ ((pS sv pr S).1.isSome = true ∧ (pS sv pr S).2 ≤ pr S) from fun h => c2 h.2)]; rfl
      · rw [if_neg c1, if_neg (show ¬ ((pS sv pr S).1.isSome = true ∧ (pS sv pr S).2 ≤ pr S) from fun h => c1 h.1)]; rfl
    have h63 : lp (f_X12_plan_l63 (mB (pS sv pr S).1, nI (pS sv pr S).2, nI S, ξ) (f_X12_plan_j98 (nI m) (mB (pS sv pr S).1, nI (pS sv pr S).2, nI S, ξ) K)) FU ((0 : Int32), (0 : Int32)) = f_X12_plan_j98 (nI m) (mB (pS sv pr S).1, nI (pS sv pr S).2, nI S, ξ) K (nI (pr S)) := by
      rw [← hpe]
      refine lp_d (Q := fun y => y = f_X12_plan_j98 (nI m) (mB (pS sv pr S).1, nI (pS sv pr S).2, nI S, ξ) K (nI (prN oc S no))) no (fun k => (nI (prN oc S k), nI k)) ?_ ?_ (by omega)
      · intro k hk K2
        unfold f_X12_plan_l63
        dsimp only
        rw [f80, le_f hk (by omega), ldI_n (by omega) (by omega), f151 k hk, bit_mul (by omega) (by omega), nI_add, lt_e, lt_e, nI_1]
        rfl
      · intro K2
        unfold f_X12_plan_l63
        dsimp only
        rw [f80, le_t (Nat.le_refl _) (by omega)]
    have hF : f_X12_plan_l46 (nI m) (f_X12_plan_j137 a2) K (mB (pS sv pr S).1, nI (pS sv pr S).2, nI S, ξ) = if (pS sv pr S).1.isSome = true ∧ (pS sv pr S).2 ≤ pr S then K (mB (pS sv pr S).1, nI (pS sv pr S).2, nI (S + 1), ξ) else if sv S = true then K (nI S, nI (pr S), nI (S + 1), ζ) else K (mB (pS sv pr S).1, nI (pS sv pr S).2, nI (S + 1), ζ) := by
      unfold f_X12_plan_l46
      dsimp only
      rw [f80, shl8 no (by omega), le_f hS (by omega), jn_e, h63, h98]
    rw [hF]
    by_cases c1 : (pS sv pr S).1.isSome = true ∧ (pS sv pr S).2 ≤ pr S
    · rw [if_pos c1]
      rw [if_pos (Or.inl c1)] at hst
      exact ⟨_, ⟨by rw [hst], by rw [hst], rfl, g4⟩, rfl⟩
    · rw [if_neg c1]
      by_cases c2 : sv S = true
      · rw [if_pos c2]
        rw [if_neg (fun h => h.elim c1 (fun h => by rw [c2] at h; cases h))] at hst
        exact ⟨_, ⟨by rw [hst]; rfl, by rw [hst], rfl, fr_t g4 s2⟩, rfl⟩
      · rw [if_neg c2]
        rw [if_pos (Or.inr (Bool.eq_false_iff.2 c2))] at hst
        exact ⟨_, ⟨by rw [hst], by rw [hst], rfl, fr_t g4 s2⟩, rfl⟩
  · rintro ⟨x1, x2, x3, ξ⟩ ⟨g1, g2, g3, g4⟩ K
    obtain rfl : x1 = mB (pS sv pr (2 ^ no)).1 := g1
    obtain rfl : x2 = nI (pS sv pr (2 ^ no)).2 := g2
    obtain rfl : x3 = nI (2 ^ no) := g3
    have g4 : fr [129, 130, 131] τ ξ := g4
    have f80 : ξ.1 86 80 = nI no := by rw [g4 86 (by decide)]; exact h80
    have hb64 : ∀ b, (pS sv pr (2 ^ no)).1 = some b → b < 64 := fun b h => by have := (hbd (2 ^ no)).1 b h; omega
    refine ⟨ξ, ?_, g4⟩
    unfold f_X12_plan_l46 f_X12_plan_j137 f_X12_plan_j158
    dsimp only
    rw [f80, shl8 no (by omega), le_t (Nat.le_refl _) (by omega), jn_e, mB_le hb64]
    by_cases c2 : (pS sv pr (2 ^ no)).1.isSome = true
    · rw [if_pos c2, if_pos c2]
      by_cases c1 : a2 = 0
      · rw [if_pos c1, if_pos c1]
      · rw [if_neg c1, if_neg c1]
        cases e : (pS sv pr (2 ^ no)).1 with
        | none => rw [e] at c2; cases c2
        | some b => rfl
    · rw [if_neg c2, if_neg c2]
theorem m_plan0 (a b : Int32) (τ : Hp) : f_X12_plan a b τ = if 0 ≤ b.toInt ∧ b.toInt < 2 then (if a.toInt < 0 then some ((-4 : Int32), rfM 4 τ) else if 9999 < a.toInt then some ((-6 : Int32), rfM 6 τ) else lp (f_X12_plan_l46 a (f_X12_plan_j137 b)) FU ((-1 : Int32), (0 : Int32), (0 : Int32), τ)) else some ((-2 : Int32), rfM 2 τ) := by
  unfold f_X12_plan
  rw [k_isIn, show (1 : Int64).toInt + 1 = 2 from rfl, show (0 : Int64).toInt = 0 from rfl]
  by_cases h1 : 0 ≤ b.toInt ∧ b.toInt < 2
  · rw [if_pos h1, if_pos h1, if_neg (by decide), k_out, show (9999 : Int64).toInt = 9999 from rfl, show (0 : Int64).toInt = 0 from rfl]
    by_cases h2 : a.toInt < 0
    · rw [if_pos h2, if_pos h2, if_neg (by decide)]; rfl
    · rw [if_neg h2, if_neg h2]
      by_cases h3 : 9999 < a.toInt
      · rw [if_pos h3, if_pos h3, if_neg (by decide)]; rfl
      · rw [if_neg h3, if_neg h3, if_pos rfl, jn_e]
  · rw [if_neg h1, if_neg h1, if_pos rfl]; rfl
theorem c_plan0 (a b : Int32) (σ : Hp) : f_X11_plan a b σ = if 0 ≤ b.toInt ∧ b.toInt < 2 then (if a.toInt < 0 then some ((-4 : Int32), rfC 4 σ) else if 9999 < a.toInt then some ((-6 : Int32), rfC 6 σ) else cl (f_X7_cheapest a b σ) (fun v σ' => some (v, σ'))) else some ((-2 : Int32), rfC 2 σ) := by
  simp only [f_X11_plan_j57, f_X11_plan_j36, f_X11_plan_j24, f_X11_plan_j15, f_X11_plan, jn_e, lt_e, k_within, cl_s, cr_s, rf_1, rf_2, rf_4, rf_6, rf_0, n1z, n2z, n4z, n6z, z0z, z1z, i32_le, if_true, if_false, l_0, l_2, show (9999 : Int32).toInt = 9999 from rfl, ile]
  by_cases h1 : 0 ≤ b.toInt ∧ b.toInt < 2
  · simp only [if_pos h1]
    by_cases h2 : a.toInt < 0
    · simp only [if_pos h2, ite_self]
    · simp only [if_neg h2]
  · simp only [if_neg h1, ite_self]
theorem st_plan (n : Nat) (a b : Int32) {σ τ : Hp} (h : RR n σ τ) : Ok32 n (f_X11_plan a b σ) (f_X12_plan a b τ) := by
  obtain ⟨hB, hC, hM⟩ := RR_pl h
  rw [c_plan0, m_plan0]
  by_cases h1 : 0 ≤ b.toInt ∧ b.toInt < 2
  · rw [if_pos h1, if_pos h1]
    by_cases h2 : a.toInt < 0
    · rw [if_pos h2, if_pos h2]; exact ok_ref h
    · rw [if_neg h2, if_neg h2]
      by_cases h3 : 9999 < a.toInt
      · rw [if_pos h3, if_pos h3]; exact ok_ref h
      · rw [if_neg h3, if_neg h3]
        obtain ⟨no, os, ov, oc, hO, h80, hof⟩ := OC_of h
        have ea := n_of (a := a) (by omega)
        have eb := n_of h1.1
        generalize hma : a.toInt.toNat = m at ea
        generalize hmb : b.toInt.toNat = g at eb
        have hm : m ≤ 9999 := by omega
        have hg : g < 2 := by omega
        subst ea eb
        obtain ⟨sv, hsv⟩ : ∃ sv : Nat → Bool, ∀ S, sv S = true ↔ svP (plN σ) os ov no m S := ⟨fun S => @decide (svP (plN σ) os ov no m S) (Classical.propDecidable _), fun S => @decide_eq_true_iff _ (Classical.propDecidable _)⟩
        obtain ⟨σ', c1, c2⟩ := c_plan1 hB hC hO hm hsv (nI g)
        obtain ⟨τ', d1, d2⟩ := m_plan1 hB hM h80 hO.1.2 (fun k hk => ⟨⟨(hof k hk).1, (hof k hk).2.1, (hO.2 k hk).1.2, (hO.2 k hk).2.1.2.2⟩, (hof k hk).2.2, (hO.2 k hk).2.2.2⟩) hm hsv (nI g)
        rw [c1, d1, cl_s]
        refine ⟨_, _, _, rfl, ?_, RR_same (RR_keep h (KC_fr (by decide) c2) (KM_fr (by decide) d2) (fun a ha => c2 a (by revert ha; revert a; decide)) (fun a ha => d2 a (by revert ha; revert a; decide)) (by rw [d2 86 (by decide)]))⟩
        congr 2
        by_cases c : (pS sv (fun S => prN oc S no) (2 ^ no)).1.isSome = true
        · rw [if_pos c, if_pos c]
          rcases (show g = 0 ∨ g = 1 by omega) with rfl | rfl
          · rw [if_pos (show nI 0 = 0 from rfl), if_neg (show ¬ nI 0 = 1 by decide)]
          · rw [if_neg (show ¬ nI 1 = 0 by decide), if_pos (show nI 1 = 1 from rfl)]
        · rw [if_neg c, if_neg c]
          cases e : (pS sv (fun S => prN oc S no) (2 ^ no)).1 with
          | none => show -9 = if nI g = 1 then -9 else -9; rw [ite_self]
          | some b => rw [e] at c; exact absurd rfl c
  · rw [if_neg h1, if_neg h1]; exact ok_ref h
