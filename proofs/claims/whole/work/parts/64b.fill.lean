/-! ===== long rows ===== -/
def zJ (z : Int) : Int64 := Int64.ofInt z
theorem zJ_t {z : Int} (h1 : -9223372036854775808 ≤ z) (h2 : z < 9223372036854775808) : (zJ z).toInt = z := Int64.toInt_ofInt_of_le h1 h2
theorem zJ_n (n : Nat) : zJ (n : Int) = lN n := Int64.ofInt_eq_ofNat
theorem zJ_i {n : Nat} (h : n < 2147483648) : (nI n).toInt64 = zJ (n : Int) := by rw [nI_l (by omega), zJ_n]
theorem zJ_add (a b : Int) : zJ a + zJ b = zJ (a + b) := (Int64.ofInt_add a b).symm
theorem zJ_sub (a b : Int) : zJ a - zJ b = zJ (a - b) := (Int64.ofInt_sub a b).symm
theorem zJ_mul (a b : Int) : zJ a * zJ b = zJ (a * b) := (Int64.ofInt_mul a b).symm
theorem zJ_neg (a : Int) : - zJ a = zJ (- a) := (Int64.ofInt_neg a).symm
theorem sJ_at (σ : Hp) (k j a i : Nat) (v : Int64) : (sJ σ k j v).2 a i = if a = k ∧ i = j then v else σ.2 a i := by
  rw [sJ_2]
  by_cases h : a = k
  · rw [if_pos h]
    by_cases h2 : i = j
    · rw [if_pos ⟨h, h2⟩, h2]; exact pk_uLs
    · rw [if_neg (fun g => h2 g.2), pk_uLn h2, h]
  · rw [if_neg h, if_neg (fun g => h g.1)]
/-- long rows outside a list are as they were; all int rows are -/
def frJ (l : List Nat) (σ σ' : Hp) : Prop := σ'.1 = σ.1 ∧ ∀ a, a ∉ l → σ'.2 a = σ.2 a
theorem frJ_0 (l : List Nat) (σ : Hp) : frJ l σ σ := ⟨rfl, fun _ _ => rfl⟩
theorem frJ_s {l : List Nat} {σ σ' : Hp} {k j : Nat} {v : Int64} (hk : k ∈ l) (h : frJ l σ σ') : frJ l σ (sJ σ' k j v) := ⟨h.1, fun a ha => by
  rw [sJ_2, if_neg (show ¬ a = k from fun e => ha (by rw [e]; exact hk))]
  exact h.2 a ha⟩
theorem frJ_t {l : List Nat} {σ σ' σ'' : Hp} (h : frJ l σ σ') (h' : frJ l σ' σ'') : frJ l σ σ'' := ⟨h'.1.trans h.1, fun a ha => (h'.2 a ha).trans (h.2 a ha)⟩
theorem frJ_m {l l' : List Nat} {σ σ' : Hp} (hl : ∀ a, a ∈ l → a ∈ l') (h : frJ l σ σ') : frJ l' σ σ' := ⟨h.1, fun a ha => h.2 a (fun h1 => ha (hl a h1))⟩
theorem fillJ_e (kc nc : Nat) (hn : nc < 1000) (v : Int64) (σ : Hp) : ∃ σ', f_J7_fill_d0a16 kc nc v σ = some σ' ∧ (∀ k, k < nc → σ'.2 kc k = v) ∧ frJ [kc] σ σ' := by
  unfold f_J7_fill_d0a16
  rw [lt_e]
  refine lp_h (Q := fun r => ∃ σ' : Hp, r = some σ' ∧ (∀ k, k < nc → σ'.2 kc k = v) ∧ frJ [kc] σ σ') nc (fun i ρ => (∀ k, k < i → ρ.2 kc k = v) ∧ frJ [kc] σ ρ) ?_ ?_ (by omega) ⟨fun k hk => absurd hk (by omega), frJ_0 _ _⟩
  · rintro i ρ hi ⟨h1, h2⟩ K
    refine ⟨sJ ρ kc i v, ⟨fun k hk => ?_, frJ_s (List.mem_singleton.2 rfl) h2⟩, ?_⟩
    · rw [sJ_at]
      by_cases e : k = i
      · rw [if_pos ⟨rfl, e⟩]
      · rw [if_neg (fun g => e g.2)]; exact h1 k (by omega)
    · have e : ¬ (Int32.ofNat nc ≤ nI i) := nI_ge hi (by omega)
      simp (disch := omega) only [f_J7_fill_d0a16_l6, if_neg e, stJ_n, lt_e, nI_1]
  · rintro ρ ⟨h1, h2⟩ K
    refine ⟨ρ, ?_, h1, h2⟩
    have e : Int32.ofNat nc ≤ nI nc := nI_le (Nat.le_refl nc) (by omega)
    simp only [f_J7_fill_d0a16_l6, if_pos e]
/-! ===== the class's matrix ===== -/
theorem cell5 {i j i' j' : Nat} (hj : j < 5) (hj' : j' < 5) : 5 * i + j = 5 * i' + j' ↔ i = i' ∧ j = j' := by omega
theorem PC_1 {σ σ' : Hp} {pl : Nat → Nat → Nat} (h : σ'.1 = σ.1) (hC : PC σ pl) : PC σ' pl := by
  unfold PC at hC ⊢
  rw [h]; exact hC
theorem pcI_aa {a b : Nat} {w : Int} (hab : a ≠ b) : pcI a b w a a = w := by
  unfold pcI
  rw [if_pos rfl, if_pos rfl, if_neg hab, if_neg hab]
  omega
theorem pcI_bb {a b : Nat} {w : Int} (hab : a ≠ b) : pcI a b w b b = w := by
  unfold pcI
  rw [if_neg hab.symm, if_pos rfl, if_pos rfl, if_neg hab.symm]
  omega
theorem pcI_no {a b i j : Nat} {w : Int} (h1 : ¬ (i = a ∧ j = a)) (h2 : ¬ (i = b ∧ j = b)) (h3 : ¬ (i = a ∧ j = b)) (h4 : ¬ (i = b ∧ j = a)) : pcI a b w i j = 0 := by
  unfold pcI
  by_cases c1 : j = a
  · rw [if_pos c1, if_neg (fun g => h1 ⟨g, c1⟩), if_neg (fun g => h4 ⟨g, c1⟩)]
    split <;> omega
  · rw [if_neg c1]
    by_cases c2 : j = b
    · rw [if_pos c2, if_neg (fun g => h2 ⟨g, c2⟩), if_neg (fun g => h3 ⟨g, c2⟩)]; rfl
    · rw [if_neg c2]; rfl
theorem c_fill {pl : Nat → Nat → Nat} (hB : PB pl) {σ : Hp} (hC : PC σ pl) {sp : Nat → Nat} {g : Nat} (hg : g < 3) (h56 : ∀ r, r < 5 → σ.1 56 r = nI (rc pl r)) (h55 : ∀ r, r < 5 → σ.1 55 r = nI (sp r)) (hsp : ∀ r, r < 5 → sp r ≤ 126) : ∃ σ', f_X7_fill (nI g) σ = some σ' ∧ frJ [57, 58] σ σ' ∧ (∀ i, i < 5 → ∀ j, j < 5 → σ'.2 57 (5 * i + j) = zJ (mtx pl sp (pl 1 6) i j)) ∧ ∀ i, i < 5 → σ'.2 58 i = zJ (vM pl sp (fun r => pl 6 (3 * r + g)) i 5) := by
  have hn := hB.1.1
  have hnp := hB.1.2.1
  have hom : pl 1 10 < 2 ^ 12 := hB.1.2.2.2.1
  have hcl : ∀ ξ : Hp, ξ.1 = σ.1 → ∀ r, r < 5 → f_X7_isClosed (nI r) ξ = some (oB (cld pl sp r)) := fun ξ hξ r hr => c_closed hB (by rw [hξ]; exact h56) (by rw [hξ]; exact h55) hsp hr
  obtain ⟨σ1, f1, f2, f3⟩ := fillJ_e 57 25 (by omega) 0 σ
  unfold f_X7_fill
  rw [f1, cr_s, jn_e]
  refine lp_h (Q := fun y => ∃ σ' : Hp, y = some σ' ∧ frJ [57, 58] σ σ' ∧ (∀ i, i < 5 → ∀ j, j < 5 → σ'.2 57 (5 * i + j) = zJ (mtx pl sp (pl 1 6) i j)) ∧ ∀ i, i < 5 → σ'.2 58 i = zJ (vM pl sp (fun r => pl 6 (3 * r + g)) i 5)) 5 (fun r ξ => frJ [57, 58] σ ξ ∧ (∀ i, i < 5 → ∀ j, j < 5 → ξ.2 57 (5 * i + j) = zJ (if i < r then mtx pl sp 0 i j else 0)) ∧ ∀ i, i < r → ξ.2 58 i = zJ (vM pl sp (fun r => pl 6 (3 * r + g)) i 5)) ?_ ?_ (by omega) ⟨frJ_m (by decide) f3, fun i hi j hj => by rw [f2 _ (by omega), if_neg (by omega)]; rfl, fun i hi => absurd hi (by omega)⟩
  · rintro r ξ hr ⟨k1, k2, k3⟩ K
    have hC' := PC_1 k1.1 hC
    have e6 : ξ.1 6 (3 * r + g) = nI (pl 6 (3 * r + g)) := hC'.2.2.2.2.2.1 (3 * r + g)
    have b6 := hB.2.2.2.2.2.1 (3 * r + g)
    have e55 : ξ.1 55 r = nI (sp r) := by rw [k1.1]; exact h55 r hr
    have hs := hsp r hr
    refine ⟨sJ (sJ ξ 57 (5 * r + r) (zJ (mtx pl sp 0 r r))) 58 r (zJ (vM pl sp (fun r => pl 6 (3 * r + g)) r 5)), ⟨frJ_s (by decide) (frJ_s (by decide) k1), fun i hi j hj => ?_, fun i hi => ?_⟩, ?_⟩
    · rw [sJ_at, if_neg (fun h => absurd h.1 (by omega)), sJ_at]
      by_cases e : i = r ∧ j = r
      · rw [if_pos ⟨rfl, by rw [e.1, e.2]⟩, if_pos (by omega), e.1, e.2]
      · rw [if_neg (fun h => e (by have := h.2; omega)), k2 i hi j hj]
        by_cases e2 : i = r
        · rw [if_neg (by omega), if_pos (by omega)]
          have e3 : mtx pl sp 0 i j = 0 := if_neg (fun h => e ⟨e2, by omega⟩)
          rw [e3]
        · by_cases e4 : i < r
          · rw [if_pos e4, if_pos (by omega)]
          · rw [if_neg e4, if_neg (by omega)]
    · rw [sJ_at]
      by_cases e : i = r
      · rw [if_pos ⟨rfl, e⟩, e]
      · rw [if_neg (fun h => e h.2), sJ_at, if_neg (fun h => absurd h.1 (by omega))]
        exact k3 i (by omega)
    · have hm0 : mtx pl sp 0 r r = if cld pl sp r = true then 1 else (sp r : Int) := if_pos rfl
      unfold f_X7_fill_l10 f_X7_fill_j45 f_X7_fill_j73
      dsimp only
      rw [show ∀ y z : Option Hp, (if (5 : Int32) ≤ nI r then y else z) = z from fun y z => le_f (a := 5) (by omega) (by omega), hcl ξ k1.1 r hr, cr_s, jn_e, oB_0, hm0, vM_5, show (5 : Int32) = nI 5 from rfl, pk_mul, nI_add, Nat.mul_comm r 5]
      cases cld pl sp r
      · rw [if_neg (by decide), ldI_n (by omega) (by omega), e55]
        dsimp only
        rw [stJ_n (by omega) (by omega), jn_e, oB_0, if_neg (by decide), if_neg (by decide), show (3 : Int32) = nI 3 from rfl, pk_mul, nI_add, Nat.mul_comm r 3, ldI_n (by omega) (by omega), show (sJ ξ 57 (5 * r + r) (nI (sp r)).toInt64).1 6 = ξ.1 6 from rfl, e6]
        dsimp only
        rw [stJ_n (by omega) (by omega), lt_e, nI_1, zJ_i (by omega), zJ_i (by omega), if_neg (by decide)]
      · rw [if_pos rfl]
        dsimp only
        rw [stJ_n (by omega) (by omega), jn_e, oB_0, if_pos rfl, if_pos rfl]
        dsimp only
        rw [stJ_n (by omega) (by omega), lt_e, nI_1, if_pos rfl]
        rfl
  · rintro ξ ⟨k1, k2, k3⟩ K
    unfold f_X7_fill_l10
    dsimp only
    rw [show ∀ y z : Option Hp, (if (5 : Int32) ≤ nI 5 then y else z) = y from fun y z => le_t (a := 5) (Nat.le_refl _) (by omega)]
    unfold f_X7_fill_j80
    refine lp_h (Q := fun y => ∃ σ' : Hp, y = some σ' ∧ frJ [57, 58] σ σ' ∧ (∀ i, i < 5 → ∀ j, j < 5 → σ'.2 57 (5 * i + j) = zJ (mtx pl sp (pl 1 6) i j)) ∧ ∀ i, i < 5 → σ'.2 58 i = zJ (vM pl sp (fun r => pl 6 (3 * r + g)) i 5)) (pl 1 6) (fun p ζ => frJ [57, 58] σ ζ ∧ (∀ i, i < 5 → ∀ j, j < 5 → ζ.2 57 (5 * i + j) = zJ (mtx pl sp p i j)) ∧ ∀ i, i < 5 → ζ.2 58 i = zJ (vM pl sp (fun r => pl 6 (3 * r + g)) i 5)) ?_ ?_ (by omega) ⟨k1, fun i hi j hj => by rw [k2 i hi j hj, if_pos hi], k3⟩
    · rintro p ζ hp ⟨l1, l2, l3⟩ K2
      obtain ⟨b1, b2, b3, b4, b5⟩ := hB.2.2.2.2.2.2.1 p hp
      have hC' := PC_1 l1.1 hC
      have e6 : ζ.1 1 6 = nI (pl 1 6) := hC'.1.2.1
      have e10 : ζ.1 1 10 = nI (pl 1 10) := hC'.1.2.2.2.1
      have e7 : ζ.1 7 p = nI (pl 7 p) := hC'.2.2.2.2.2.2.1 p hp
      have e8 : ζ.1 8 p = nI (pl 8 p) := hC'.2.2.2.2.2.2.2.1 p hp
      have e9 : ζ.1 9 p = nI (pl 9 p) := hC'.2.2.2.2.2.2.2.2.1 p hp
      have hK : ∀ ρ', f_X7_fill_j233 (nI p, ζ) K2 ρ' = K2 (nI (p + 1), ρ') := fun ρ' => by
        unfold f_X7_fill_j233
        rw [lt_e, nI_1]
      generalize ha : pl 7 p = a at *
      generalize hb : pl 8 p = b at *
      generalize hw : pl 9 p = w at *
      have a5' : a < 5 := by omega
      have b5' : b < 5 := by omega
      by_cases hcond : opn pl p = true ∧ cld pl sp a = false
      · -- the four cells
        have hm : ∀ i j, mtx pl sp (p + 1) i j = mtx pl sp p i j + pcI a b w i j := fun i j => by
          rw [mtx_s, ha, hb, hw, if_pos hcond]
        refine ⟨sJ (sJ (sJ (sJ ζ 57 (5 * a + a) (zJ (mtx pl sp p a a + w))) 57 (5 * b + b) (zJ (mtx pl sp p b b + w))) 57 (5 * a + b) (zJ (mtx pl sp p a b - w))) 57 (5 * b + a) (zJ (mtx pl sp p b a - w)), ⟨frJ_s (by decide) (frJ_s (by decide) (frJ_s (by decide) (frJ_s (by decide) l1))), fun i hi j hj => ?_, fun i hi => ?_⟩, ?_⟩
        · rw [sJ_at, sJ_at, sJ_at, sJ_at, hm, l2 i hi j hj]
          simp only [true_and, cell5 hj a5', cell5 hj b5']
          by_cases c1 : i = b ∧ j = a
          · rw [if_pos c1, c1.1, c1.2, pcI_sym b3, pcI_ab b3]
            congr 1
          · rw [if_neg c1]
            by_cases c2 : i = a ∧ j = b
            · rw [if_pos c2, c2.1, c2.2, pcI_ab b3]
              congr 1
            · rw [if_neg c2]
              by_cases c3 : i = b ∧ j = b
              · rw [if_pos c3, c3.1, c3.2, pcI_bb b3]
              · rw [if_neg c3]
                by_cases c4 : i = a ∧ j = a
                · rw [if_pos c4, c4.1, c4.2, pcI_aa b3]
                · rw [if_neg c4, pcI_no c4 c3 c2 c1, Int.add_zero]
        · rw [sJ_at, if_neg (fun h => absurd h.1 (by omega)), sJ_at, if_neg (fun h => absurd h.1 (by omega)), sJ_at, if_neg (fun h => absurd h.1 (by omega)), sJ_at, if_neg (fun h => absurd h.1 (by omega))]
          exact l3 i hi
        · have n1 : ¬ 5 * b + b = 5 * a + a := by omega
          have n2 : ¬ 5 * a + b = 5 * b + b := by omega
          have n3 : ¬ 5 * a + b = 5 * a + a := by omega
          have n4 : ¬ 5 * b + a = 5 * a + b := by omega
          have n5 : ¬ 5 * b + a = 5 * b + b := by omega
          have n6 : ¬ 5 * b + a = 5 * a + a := by omega
          have hob : (pl 1 10).testBit p = true := hcond.1
          unfold f_X7_fill_l82
          dsimp only
          rw [e6, le_f hp (by omega), ldI_n (by omega) (by omega), e7, ldI_n (by omega) (by omega), e8, jn_e, e10, bit1 (by omega) (by omega), if_pos hob, hcl ζ l1.1 a a5', cr_s, hcond.2, if_pos (show oB false = 0 from rfl), show (5 : Int32) = nI 5 from rfl, pk_mul, pk_mul, nI_add, nI_add, nI_add, nI_add, Nat.mul_comm a 5, Nat.mul_comm b 5, ldJ_n (by omega) (by omega), ldI_n (by omega) (by omega), e9, stJ_n (by omega) (by omega), zJ_i (by omega), l2 a a5' a a5', zJ_add]
          rw [ldJ_n (by omega) (by omega), sJ_at, if_neg (fun h => n1 h.2), l2 b b5' b b5', ldI_n (by omega) (by omega), show ∀ x : Int64, (sJ ζ 57 (5 * a + a) x).1 9 p = ζ.1 9 p from fun _ => rfl, e9, zJ_i (by omega), zJ_add, stJ_n (by omega) (by omega)]
          rw [ldJ_n (by omega) (by omega), sJ_at, if_neg (fun h => n2 h.2), sJ_at, if_neg (fun h => n3 h.2), l2 a a5' b b5', ldI_n (by omega) (by omega), show ∀ x y : Int64, (sJ (sJ ζ 57 (5 * a + a) x) 57 (5 * b + b) y).1 9 p = ζ.1 9 p from fun _ _ => rfl, e9, zJ_i (by omega), zJ_sub, stJ_n (by omega) (by omega)]
          rw [ldJ_n (by omega) (by omega), sJ_at, if_neg (fun h => n4 h.2), sJ_at, if_neg (fun h => n5 h.2), sJ_at, if_neg (fun h => n6 h.2), l2 b b5' a a5', ldI_n (by omega) (by omega), show ∀ x y z : Int64, (sJ (sJ (sJ ζ 57 (5 * a + a) x) 57 (5 * b + b) y) 57 (5 * a + b) z).1 9 p = ζ.1 9 p from fun _ _ _ => rfl, e9, zJ_i (by omega), zJ_sub, stJ_n (by omega) (by omega), hK]
      · refine ⟨ζ, ⟨l1, fun i hi j hj => ?_, l3⟩, ?_⟩
        · rw [mtx_s, ha, if_neg hcond, Int.add_zero]; exact l2 i hi j hj
        · unfold f_X7_fill_l82
          dsimp only
          rw [e6, le_f hp (by omega), ldI_n (by omega) (by omega), e7, ldI_n (by omega) (by omega), e8, jn_e, e10, bit1 (by omega) (by omega), hcl ζ l1.1 a a5', cr_s, hK]
          by_cases ho : (pl 1 10).testBit p = true
          · rw [if_pos ho]
            have hcl2 : cld pl sp a = true := by
              cases e : cld pl sp a
              · exact absurd ⟨ho, e⟩ hcond
              · rfl
            rw [hcl2, if_neg (by decide)]
          · rw [if_neg ho]
    · rintro ζ ⟨l1, l2, l3⟩ K2
      have hC' := PC_1 l1.1 hC
      have e6 : ζ.1 1 6 = nI (pl 1 6) := hC'.1.2.1
      refine ⟨ζ, ?_, l1, l2, l3⟩
      unfold f_X7_fill_l82
      dsimp only
      rw [e6, le_t (Nat.le_refl _) (by omega)]
