/-! ===== at rest: the model clears column after column ===== -/
/-- the rows of the model, r of them already cleared at column c -/
def GJ (v : Nat → Nat → Int) (n c r : Nat) (τ0 ξ : Hp) : Prop := frJ [128] τ0 ξ ∧ ∃ W : Nat → Nat → Int, (∀ i, i < n → ∀ j, j < 6 → ξ.2 128 (6 * i + j) = zJ (W i j)) ∧ ∀ i, i < n → RI v n (if i < r ∧ i ≠ c then c + 1 else c) i (W i)
theorem RI_0 {v : Nat → Nat → Int} (hM : MM v) {n r : Nat} (hr : r < 5) (ho : ∀ j, n ≤ j → j < 5 → v r j = 0) : RI v n 0 r (v r) := ⟨fun i hi => absurd hi (by omega), ho, fun y hy => hy r hr (Or.inr rfl), by
  have := diag_1 hM r hr
  omega, Or.inr fun j _ => rfl⟩
theorem lg0_z {z : Int} (h1 : -9223372036854775808 ≤ z) (h2 : z < 9223372036854775808) : (lg_cmp (zJ z) (0 : Int64) = 0) ↔ z = 0 := by
  rw [lg_cmp_eq]
  constructor
  · intro h
    have := congrArg Int64.toInt h
    rw [zJ_t h1 h2] at this
    exact this
  · intro h
    rw [h]; rfl
theorem GJ_row {v : Nat → Nat → Int} (hM : MM v) (ht : a5 (fun i => v i i) ≤ 347) (hL : a5 (fun i => v i 5) ≤ 4995) {n c r : Nat} (hn : n ≤ 5) (hc : c < n) (hr : r < n) {τ0 ξ ζ : Hp} (h20 : τ0.1 86 20 = nI n) (h : GJ v n c r τ0 ξ) (k461 : Hp → Option Hp) (K : Int32 × Hp → Option Hp) : ∃ ξ', f_X12_solves_l342 (nI c, ζ) k461 K (nI r, ξ) = K (nI (r + 1), ξ') ∧ GJ v n c (r + 1) τ0 ξ' := by
  obtain ⟨h1, W, h2, h3⟩ := h
  have e20 : ξ.1 86 20 = nI n := by rw [h1.1]; exact h20
  have hK : ∀ ρ', f_X12_solves_j455 (nI r, ξ) K ρ' = K (nI (r + 1), ρ') := fun ρ' => by
    unfold f_X12_solves_j455
    rw [lt_e, nI_1]
  have hF : f_X12_solves_l342 (nI c, ζ) k461 K (nI r, ξ) = if r = c then K (nI (r + 1), ξ) else if lg_cmp (zJ (W r c)) 0 = 0 then K (nI (r + 1), ξ) else lp (f_X12_solves_l394 (nI c, ζ) (nI r, ξ) (zJ (W r c)) (zJ (W c c)) (f_X12_solves_j450 (nI r, ξ) (f_X12_solves_j455 (nI r, ξ) K)) ) FU ((0 : Int32), ξ) := by
    unfold f_X12_solves_l342
    dsimp only
    rw [e20, le_f hr (by omega), show (6 : Int32) = nI 6 from rfl, pk_mul, nI_add, ldJ_n (by omega) (by omega), pk_mul, nI_add, ldJ_n (by omega) (by omega), h2 r hr c (by omega), h2 c hc c (by omega), jn_e, hK, jn_e]
    by_cases e : r = c
    · rw [if_pos e, if_pos (by rw [e])]
    · rw [if_neg e, if_neg (fun h => e ((nI_eq (by omega) (by omega)).1 h))]
  rw [hF]
  by_cases e : r = c
  · rw [if_pos e]
    refine ⟨ξ, rfl, h1, W, h2, fun i hi => ?_⟩
    have := h3 i hi
    by_cases c1 : i < r ∧ i ≠ c
    · rw [if_pos c1] at this; rw [if_pos ⟨by omega, c1.2⟩]; exact this
    · rw [if_neg c1] at this; rw [if_neg (fun h => c1 ⟨by omega, h.2⟩)]; exact this
  · rw [if_neg e]
    have hrr := h3 r hr
    have hcc := h3 c hc
    rw [if_neg (fun h => absurd h.1 (by omega))] at hrr
    rw [if_neg (fun h => absurd rfl h.2)] at hcc
    have hbd := row_bd hM ht hL (by omega) (by omega) e hrr hcc
    have hw0 : W c c ≠ 0 := hcc.2.2.2.1
    have hz : (W r c).natAbs < 4611686018427387904 := by
      have := (hbd c (by omega)).1
      rw [Int.natAbs_mul] at this
      exact Nat.lt_of_le_of_lt (Nat.le_mul_of_pos_right _ (by omega)) this
    rw [show (0 : Int64) = 0 from rfl]
    by_cases e2 : W r c = 0
    · rw [if_pos ((lg0_z (by omega) (by omega)).2 e2)]
      refine ⟨ξ, rfl, h1, W, h2, fun i hi => ?_⟩
      by_cases e3 : i = r
      · rw [e3, if_pos ⟨by omega, e⟩]
        exact RI_st hrr (fun _ => e2)
      · have := h3 i hi
        by_cases c1 : i < r ∧ i ≠ c
        · rw [if_pos c1] at this; rw [if_pos ⟨by omega, c1.2⟩]; exact this
        · rw [if_neg c1] at this; rw [if_neg (fun h => c1 ⟨by omega, h.2⟩)]; exact this
    · rw [if_neg (fun h => e2 ((lg0_z (by omega) (by omega)).1 h))]
      generalize hx : (fun j => W r j * W c c - W c j * W r c) = x
      have hxj : ∀ j, x j = W r j * W c c - W c j * W r c := fun j => by rw [← hx]
      refine lp_h (Q := fun y => ∃ ξ' : Hp, y = K (nI (r + 1), ξ') ∧ GJ v n c (r + 1) τ0 ξ') 6 (fun k ρ => frJ [128] τ0 ρ ∧ (∀ i, i < n → i ≠ r → ∀ j, j < 6 → ρ.2 128 (6 * i + j) = zJ (W i j)) ∧ ∀ j, j < 6 → ρ.2 128 (6 * r + j) = zJ (if j < k then x j else W r j)) ?_ ?_ (by omega) ⟨h1, fun i hi _ j hj => h2 i hi j hj, fun j hj => by rw [if_neg (by omega)]; exact h2 r hr j hj⟩
      · rintro k ρ hk ⟨g1, g2, g3⟩ K2
        refine ⟨sJ ρ 128 (6 * r + k) (zJ (x k)), ⟨frJ_s (by decide) g1, fun i hi hir j hj => ?_, fun j hj => ?_⟩, ?_⟩
        · rw [sJ_at, if_neg (fun h => hir (by omega))]; exact g2 i hi hir j hj
        · rw [sJ_at]
          by_cases e4 : j = k
          · rw [if_pos ⟨rfl, by omega⟩, if_pos (by omega), e4]
          · rw [if_neg (fun h => e4 (by omega)), g3 j hj]
            by_cases e5 : j < k
            · rw [if_pos e5, if_pos (by omega)]
            · rw [if_neg e5, if_neg (by omega)]
        · unfold f_X12_solves_l394
          dsimp only
          rw [show ∀ y z : Option Hp, (if (6 : Int32) ≤ nI k then y else z) = z from fun y z => le_f (a := 6) (by omega) (by omega), show (6 : Int32) = nI 6 from rfl, pk_mul, pk_mul, nI_add, nI_add, ldJ_n (by omega) (by omega), ldJ_n (by omega) (by omega), g3 k hk, if_neg (by omega), g2 c hc (by omega) k hk, zJ_mul, zJ_mul, zJ_sub, ← hxj, stJ_n (by omega) (by omega), lt_e, nI_1]
      · rintro ρ ⟨g1, g2, g3⟩ K2
        have hup := row_up hM (by omega) (by omega) e hrr hcc (x := x) (fun j _ => hxj j)
        have hxb : ∀ j, j < 6 → (x j).natAbs < 9223372036854775808 := fun j hj => by
          have := hbd j hj
          rw [hxj]
          omega
        obtain ⟨ρ', w, s1, s2, s3, s4, s5⟩ := m_shorten (τ := ρ) (r := r) (by omega) hxb (fun j hj => by rw [g3 j hj, if_pos hj]) hup.1
        refine ⟨ρ', ?_, frJ_t g1 s2, fun i j => if i = r then w j else W i j, fun i hi j hj => ?_, fun i hi => ?_⟩
        · unfold f_X12_solves_l394 f_X12_solves_j450
          dsimp only
          rw [show ∀ y z : Option Hp, (if (6 : Int32) ≤ nI 6 then y else z) = y from fun y z => le_t (a := 6) (Nat.le_refl _) (by omega), s1, cr_s, hK]
        · dsimp only
          by_cases e4 : i = r
          · rw [if_pos e4, e4]; exact s4 j hj
          · rw [if_neg e4, s5 i e4 j hj]; exact g2 i hi e4 j hj
        · dsimp only
          by_cases e4 : i = r
          · have : (fun j => if i = r then w j else W i j) = w := by
              funext j
              rw [if_pos e4]
            rw [this, e4, if_pos ⟨by omega, e⟩]
            exact hup.2 w s3
          · have : (fun j => if i = r then w j else W i j) = W i := by
              funext j
              rw [if_neg e4]
            rw [this]
            have := h3 i hi
            by_cases c1 : i < r ∧ i ≠ c
            · rw [if_pos c1] at this; rw [if_pos ⟨by omega, c1.2⟩]; exact this
            · rw [if_neg c1] at this; rw [if_neg (fun h => c1 ⟨by omega, h.2⟩)]; exact this
theorem m_elim {v : Nat → Nat → Int} (hM : MM v) (ht : a5 (fun i => v i i) ≤ 347) (hL : a5 (fun i => v i 5) ≤ 4995) {n : Nat} (hn : n ≤ 5) {τ : Hp} (h20 : τ.1 86 20 = nI n) (ho : ∀ r, r < n → ∀ j, n ≤ j → j < 5 → v r j = 0) (h128 : ∀ i, i < n → ∀ j, j < 6 → τ.2 128 (6 * i + j) = zJ (v i j)) : ∃ τ', f_X12_solves_j330 τ = some τ' ∧ frJ [128] τ τ' ∧ ∃ W : Nat → Nat → Int, (∀ i, i < n → ∀ j, j < 6 → τ'.2 128 (6 * i + j) = zJ (W i j)) ∧ ∀ i, i < n → RI v n n i (W i) := by
  unfold f_X12_solves_j330
  refine lp_h (Q := fun y => ∃ τ' : Hp, y = some τ' ∧ frJ [128] τ τ' ∧ ∃ W : Nat → Nat → Int, (∀ i, i < n → ∀ j, j < 6 → τ'.2 128 (6 * i + j) = zJ (W i j)) ∧ ∀ i, i < n → RI v n n i (W i)) n (fun c ξ => GJ v n c 0 τ ξ) ?_ ?_ (by omega) ⟨frJ_0 _ _, v, h128, fun i hi => by
    rw [if_neg (fun h => absurd h.1 (by omega))]
    exact RI_0 hM (by omega) (ho i hi)⟩
  · rintro c ζ hc hG K
    have e20 : ζ.1 86 20 = nI n := by rw [hG.1.1]; exact h20
    have hin : ∃ ξ', lp (f_X12_solves_l342 (nI c, ζ) (f_X12_solves_j461 (nI c, ζ) K)) FU ((0 : Int32), ζ) = K (nI (c + 1), ξ') ∧ GJ v n (c + 1) 0 τ ξ' := by
      refine lp_h (Q := fun y => ∃ ξ' : Hp, y = K (nI (c + 1), ξ') ∧ GJ v n (c + 1) 0 τ ξ') n (fun r ξ => GJ v n c r τ ξ) ?_ ?_ (by omega) hG
      · rintro r ξ hr hg K2
        obtain ⟨ξ', q1, q2⟩ := GJ_row hM ht hL hn hc hr h20 hg (ζ := ζ) (f_X12_solves_j461 (nI c, ζ) K) K2
        exact ⟨ξ', q2, q1⟩
      · rintro ξ ⟨g1, W, g2, g3⟩ K2
        have f20 : ξ.1 86 20 = nI n := by rw [g1.1]; exact h20
        refine ⟨ξ, ?_, g1, W, g2, fun i hi => ?_⟩
        · unfold f_X12_solves_l342 f_X12_solves_j461
          dsimp only
          rw [f20, le_t (Nat.le_refl _) (by omega), lt_e, nI_1]
        · rw [if_neg (fun h => absurd h.1 (by omega))]
          have := g3 i hi
          by_cases e : i = c
          · rw [if_neg (fun h => h.2 e)] at this
            exact RI_st this (fun h => absurd e h)
          · rw [if_pos ⟨hi, e⟩] at this
            exact this
    obtain ⟨ξ', q1, q2⟩ := hin
    refine ⟨ξ', q2, ?_⟩
    unfold f_X12_solves_l332
    dsimp only
    rw [e20, le_f hc (by omega), jn_e]
    exact q1
  · rintro ζ ⟨g1, W, g2, g3⟩ K
    have e20 : ζ.1 86 20 = nI n := by rw [g1.1]; exact h20
    refine ⟨ζ, ?_, g1, W, g2, fun i hi => ?_⟩
    · unfold f_X12_solves_l332
      dsimp only
      rw [e20, le_t (Nat.le_refl _) (by omega)]
    · have := g3 i hi
      rw [if_neg (fun h => absurd h.1 (by omega))] at this
      exact this
