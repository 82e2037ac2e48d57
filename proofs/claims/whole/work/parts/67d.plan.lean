/-! ===== a plan: the call answers alike ===== -/
def prN (oc : Nat → Nat) (S : Nat) : Nat → Nat
  | 0 => 0
  | k + 1 => prN oc S k + (if S.testBit k = true then oc k else 0)
theorem prN_le {oc : Nat → Nat} {S : Nat} : ∀ k, (∀ j, j < k → oc j ≤ 999) → prN oc S k ≤ 999 * k
  | 0, _ => Nat.le_refl _
  | k + 1, h => by
    have h1 := prN_le (oc := oc) (S := S) k (fun j hj => h j (by omega))
    have h2 := h k (by omega)
    show prN oc S k + (if S.testBit k = true then oc k else 0) ≤ _
    split <;> omega
theorem c_price {σ : Hp} {n no : Nat} {os ov oc : Nat → Nat} (hO : OC σ n no os ov oc) {S : Nat} (hS : S < 64) : f_X7_priceOf (nI S) σ = some (nI (prN oc S no)) := by
  have hno := hO.1.2
  unfold f_X7_priceOf
  refine lp_d (Q := fun y => y = some (nI (prN oc S no))) no (fun k => (nI (prN oc S k), nI k)) ?_ ?_ (by omega)
  · intro k hk K
    have e := (hO.2 k hk).2.2.1
    unfold f_X7_priceOf_l4
    dsimp only
    rw [hO.1.1, le_f hk (by omega), ldI_n (by omega) (by omega), e, bit_mul (by omega) (by omega), nI_add, lt_e, lt_e, nI_1]
    rfl
  · intro K
    unfold f_X7_priceOf_l4
    dsimp only
    rw [hO.1.1, le_t (Nat.le_refl _) (by omega)]
def pS (sv : Nat → Bool) (pr : Nat → Nat) : Nat → Option Nat × Nat
  | 0 => (none, 0)
  | S + 1 => if ((pS sv pr S).1.isSome = true ∧ (pS sv pr S).2 ≤ pr S) ∨ sv S = false then pS sv pr S else (some S, pr S)
theorem pS_bd {sv : Nat → Bool} {pr : Nat → Nat} (hp : ∀ S, pr S ≤ 5994) : ∀ S, (∀ b, (pS sv pr S).1 = some b → b < S) ∧ (pS sv pr S).2 ≤ 5994
  | 0 => ⟨fun b h => (by cases h), by show 0 ≤ 5994; omega⟩
  | S + 1 => by
    obtain ⟨h1, h2⟩ := pS_bd (sv := sv) hp S
    have e : pS sv pr (S + 1) = if ((pS sv pr S).1.isSome = true ∧ (pS sv pr S).2 ≤ pr S) ∨ sv S = false then pS sv pr S else (some S, pr S) := rfl
    rw [e]
    split
    · exact ⟨fun b h => by have := h1 b h; omega, h2⟩
    · refine ⟨fun b h => ?_, hp S⟩
      cases h
      omega
def cB : Option Nat → Int32
  | none => -9
  | some b => nI b
def mB : Option Nat → Int32
  | none => -1
  | some b => nI b
theorem cB_9 {α : Type} {x : Option Nat} (h : ∀ b, x = some b → b < 64) (y z : α) : (if cB x = (-9 : Int32) then y else z) = if x.isSome = true then z else y := by
  cases x with
  | none => rfl
  | some b =>
    have hb := h b rfl
    rw [if_neg (show ¬ cB (some b) = -9 from fun (e : nI b = -9) => by
      have := congrArg Int32.toInt e
      rw [nI_toInt (by omega)] at this
      have h2 : (-9 : Int32).toInt = -9 := rfl
      rw [h2] at this
      omega), if_pos (show (some b).isSome = true from rfl)]
theorem mB_0 {α : Type} {x : Option Nat} (h : ∀ b, x = some b → b < 64) (y z : α) : (if mB x < 0 then y else z) = if x.isSome = true then z else y := by
  cases x with
  | none => rfl
  | some b =>
    have hb := h b rfl
    rw [if_neg (show ¬ mB (some b) < 0 from fun (e : nI b < 0) => by
      have := (i32_lt _ _).1 e
      rw [nI_toInt (by omega)] at this
      have h2 : (0 : Int32).toInt = 0 := rfl
      rw [h2] at this
      omega), if_pos (show (some b).isSome = true from rfl)]
theorem mB_le {α : Type} {x : Option Nat} (h : ∀ b, x = some b → b < 64) (y z : α) : (if 0 ≤ mB x then y else z) = if x.isSome = true then y else z := by
  cases x with
  | none => rfl
  | some b =>
    have hb := h b rfl
    rw [if_pos (show (0 : Int32) ≤ mB (some b) from (i32_le 0 (nI b)).2 (by
      rw [nI_toInt (by omega)]
      show (0 : Int) ≤ _
      omega)), if_pos (show (some b).isSome = true from rfl)]
theorem c_plan1 {pl : Nat → Nat → Nat} (hB : PB pl) {σ : Hp} (hC : PC σ pl) {no : Nat} {os ov oc : Nat → Nat} (hO : OC σ (pl 1 0) no os ov oc) {m : Nat} (hm : m ≤ 9999) {sv : Nat → Bool} (hsv : ∀ S, sv S = true ↔ svP pl os ov no m S) (a2 : Int32) : ∃ σ', f_X7_cheapest (nI m) a2 σ = some (if a2 = 1 then cB (pS sv (fun S => prN oc S no) (2 ^ no)).1 else if (pS sv (fun S => prN oc S no) (2 ^ no)).1.isSome = true then nI (pS sv (fun S => prN oc S no) (2 ^ no)).2 else -9, σ') ∧ fr [55, 56] σ σ' := by
  have hn := hB.1.1
  have hno := hO.1.2
  obtain ⟨σ1, a1, a2', a3⟩ := c_reached hB hC
  have hC1 := PC_fr (l := [56]) (by decide) a2' hC
  have hO1 := OC_fr (l := [56]) (by decide) a2' hO
  have hpr : ∀ S, prN oc S no ≤ 5994 := fun S => by
    have := prN_le (oc := oc) (S := S) no (fun j hj => (hO.2 j hj).2.2.2)
    omega
  have h64 : 2 ^ no ≤ 64 := Nat.pow_le_pow_right (n := 2) (j := 6) (by omega) hno
  generalize hpr0 : (fun S => prN oc S no) = pr at *
  have hpe : ∀ S, prN oc S no = pr S := fun S => by rw [← hpr0]
  have hpr' : ∀ S, pr S ≤ 5994 := fun S => by rw [← hpe]; exact hpr S
  have hbd := pS_bd (sv := sv) hpr'
  unfold f_X7_cheapest
  rw [a1, cr_s, c_leaky hB hC1 a3, cr_s, jn_e]
  refine lp_n (Q := fun y => ∃ σ' : Hp, y = some (if a2 = 1 then cB (pS sv pr (2 ^ no)).1 else if (pS sv pr (2 ^ no)).1.isSome = true then nI (pS sv pr (2 ^ no)).2 else -9, σ') ∧ fr [55, 56] σ σ') (2 ^ no) (fun S s => s.1 = cB (pS sv pr S).1 ∧ s.2.1 = nI (pS sv pr S).2 ∧ s.2.2.1 = nI S ∧ fr [55] σ1 s.2.2.2) ?_ ?_ 0 (Nat.zero_le _) (by omega) ⟨rfl, rfl, rfl, fr_0 _ _⟩
  · rintro S ⟨x1, x2, x3, ξ⟩ hS ⟨g1, g2, g3, g4⟩ K
    obtain rfl : x1 = cB (pS sv pr S).1 := g1
    obtain rfl : x2 = nI (pS sv pr S).2 := g2
    obtain rfl : x3 = nI S := g3
    have g4 : fr [55] σ1 ξ := g4
    have hCx := PC_fr (l := [55]) (by decide) g4 hC1
    have hOx := OC_fr (l := [55]) (by decide) g4 hO1
    have k56 : ∀ r, r < 5 → ξ.1 56 r = nI (rc pl r) := fun r hr => by rw [g4 56 (by decide)]; exact a3 r hr
    obtain ⟨b, ζ, s1, s2, s3⟩ := c_serves hB hCx hOx k56 (S := S) (m := m) (by omega) hm
    have hb : b = sv S := by
      cases b <;> cases e : sv S
      · rfl
      · exact absurd (s3.2 ((hsv S).1 e)) (by decide)
      · have := (hsv S).2 (s3.1 rfl)
        rw [e] at this
        cases this
      · rfl
    have hb64 : ∀ b, (pS sv pr S).1 = some b → b < 64 := fun b h => by have := (hbd S).1 b h; omega
    have hb2 := (hbd S).2
    have hpS := hpr' S
    have hst : pS sv pr (S + 1) = if ((pS sv pr S).1.isSome = true ∧ (pS sv pr S).2 ≤ pr S) ∨ sv S = false then pS sv pr S else (some S, pr S) := rfl
    have hF : f_X7_cheapest_l19 (nI m) (nI (lkN pl (pl 1 0))) (f_X7_cheapest_j77 a2) K (cB (pS sv pr S).1, nI (pS sv pr S).2, nI S, ξ) = if (pS sv pr S).1.isSome = true ∧ (pS sv pr S).2 ≤ pr S then K (cB (pS sv pr S).1, nI (pS sv pr S).2, nI (S + 1), ξ) else if sv S = true then K (nI S, nI (pr S), nI (S + 1), ζ) else K (cB (pS sv pr S).1, nI (pS sv pr S).2, nI (S + 1), ζ) := by
      unfold f_X7_cheapest_l19 f_X7_cheapest_j71 f_X7_cheapest_j52
      dsimp only
      rw [hOx.1.1, shl8 no (by omega), le_f hS (by omega), c_price hOx (by omega), cr_s, jn_e, jn_e, s1, cl_s, hb, hpe, cB_9 hb64, oB_0, nI_1]
      by_cases c1 : (pS sv pr S).1.isSome = true
      · rw [if_pos c1]
        by_cases c2 : (pS sv pr S).2 ≤ pr S
        · rw [le_t c2 (by omega), if_pos (show (pS sv pr S).1.isSome = true ∧ (pS sv pr S).2 ≤ pr S from ⟨c1, c2⟩)]; rfl
        · rw [le_f (by omega) (by omega), if_neg (show ¬ ((pS sv pr S).1.isSome = true ∧ (pS sv pr S).2 ≤ pr S) from fun h => c2 h.2)]; rfl
      · rw [if_neg c1, if_neg (show ¬ ((pS sv pr S).1.isSome = true ∧ (pS sv pr S).2 ≤ pr S) from fun h => c1 h.1)]; rfl
    rw [hF]
    by_cases c1 : (pS sv pr S).1.isSome = true ∧ (pS sv pr S).2 ≤ pr S
    · rw [if_pos c1]
      rw [if_pos (Or.inl c1)] at hst
      exact ⟨_, ⟨by rw [hst], by rw [hst], rfl, g4⟩, rfl⟩
    · rw [if_neg c1]
      by_cases c2 : sv S = true
      · rw [if_pos c2]
        rw [if_neg (fun h => h.elim c1 (fun h => by rw [c2] at h; cases h))] at hst
        exact ⟨_, ⟨by rw [hst]; rfl, by rw [hst], rfl, fr_t g4 s2⟩, rfl⟩
      · rw [if_neg c2]
        rw [if_pos (Or.inr (Bool.eq_false_iff.2 c2))] at hst
        exact ⟨_, ⟨by rw [hst], by rw [hst], rfl, fr_t g4 s2⟩, rfl⟩
  · rintro ⟨x1, x2, x3, ξ⟩ ⟨g1, g2, g3, g4⟩ K
    obtain rfl : x1 = cB (pS sv pr (2 ^ no)).1 := g1
    obtain rfl : x2 = nI (pS sv pr (2 ^ no)).2 := g2
    obtain rfl : x3 = nI (2 ^ no) := g3
    have g4 : fr [55] σ1 ξ := g4
    have hOx := OC_fr (l := [55]) (by decide) g4 hO1
    have hb64 : ∀ b, (pS sv pr (2 ^ no)).1 = some b → b < 64 := fun b h => by have := (hbd (2 ^ no)).1 b h; omega
    refine ⟨ξ, ?_, fr_t (fr_m (by decide) a2') (fr_m (by decide) g4)⟩
    unfold f_X7_cheapest_l19 f_X7_cheapest_j77 f_X7_cheapest_j89 f_X7_cheapest_j96
    dsimp only
    rw [hOx.1.1, shl8 no (by omega), le_t (Nat.le_refl _) (by omega), jn_e, jn_e, cB_9 hb64]
    by_cases c1 : a2 = 1
    · rw [if_pos c1, if_pos c1]
    · rw [if_neg c1, if_neg c1]
      by_cases c2 : (pS sv pr (2 ^ no)).1.isSome = true
      · rw [if_pos c2, if_pos c2]
      · rw [if_neg c2, if_neg c2]
        cases e : (pS sv pr (2 ^ no)).1 with
        | none => rfl
        | some b => rw [e] at c2; exact absurd rfl c2
