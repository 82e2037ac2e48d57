/-! ===== the class's determinant ===== -/
def psm (f : Nat → Int) : Nat → Int
  | 0 => 0
  | c + 1 => psm f c + f c
theorem psm_5 (f : Nat → Int) : psm f 5 = a5 f := by
  show 0 + f 0 + f 1 + f 2 + f 3 + f 4 = f 0 + f 1 + f 2 + f 3 + f 4
  rw [Int.zero_add]
theorem pc_16 : ∀ S, S < 32 → pcN S 16 = pcN S 5 := by decide +kernel
theorem pc_pos : ∀ S, S < 32 → S = 0 ∨ (1 ≤ pcN S 5 ∧ pcN S 5 ≤ 5) := by decide +kernel
theorem sg_pc : ∀ S, S < 32 → ∀ c, c < 5 → sg S c = if S.testBit c = true then (if pcN (S / 2 ^ c) 16 % 2 = 0 then -1 else 1) else sg S c := by decide +kernel
theorem c_det {σ : Hp} {V : Nat → Nat → Int} {a1 : Int32} (hE : ∀ i, i < 5 → ∀ c, c < 5 → (if nI c = a1 then σ.2 58 i else σ.2 57 (5 * i + c)) = zJ (V i c)) : ∃ σ', f_X7_determinant a1 σ = some (zJ (PT V 31), σ') ∧ frJ [59] σ σ' := by
  unfold f_X7_determinant
  rw [show (0 : Int32) = nI 0 from rfl, stJ_n (by omega) (by omega), jn_e]
  refine lp_hf (Q := fun y => ∃ σ' : Hp, y = some (zJ (PT V 31), σ') ∧ frJ [59] σ σ') 1 32 (fun S ξ => frJ [59] σ ξ ∧ ∀ T, T < S → ξ.2 59 T = zJ (mnS V T)) ?_ ?_ (by omega) (by omega) ⟨frJ_s (by decide) (frJ_0 _ _), fun T hT => ?_⟩
  · rintro S ξ hS1 hS ⟨h1, h2⟩ K
    obtain ⟨k, hk⟩ : ∃ k, pcN S 5 = k + 1 := by
      rcases pc_pos S hS with g | g
      · omega
      · exact ⟨pcN S 5 - 1, by omega⟩
    have hk5 : k < 5 := by
      rcases pc_pos S hS with g | g <;> omega
    generalize hf : (fun c => if S.testBit c then sg S c * V k c * mnS V (S ^^^ 2 ^ c) else 0) = f
    refine ⟨sJ ξ 59 S (zJ (mnS V S)), ⟨frJ_s (by decide) h1, fun T hT => ?_⟩, ?_⟩
    · rw [sJ_at]
      by_cases e : T = S
      · rw [if_pos ⟨rfl, e⟩, e]
      · rw [if_neg (fun g => e g.2)]; exact h2 T (by omega)
    · have hend : mnS V S = psm f 5 := by rw [psm_5, mnS_s V hS hk hk5, hf]
      unfold f_X7_determinant_l9
      dsimp only
      rw [show ∀ y z : Option (Int64 × Hp), (if (32 : Int32) ≤ nI S then y else z) = z from fun y z => le_f (a := 32) (by omega) (by omega), bc_e (by omega), pc_16 S hS, hk, cr_s, nI_s1, lt_e, jn_e]
      refine lp_d (Q := fun y => y = K (nI (S + 1), sJ ξ 59 S (zJ (mnS V S)))) 5 (fun c => (zJ (psm f c), nI c)) ?_ ?_ (by omega)
      · intro c hc K2
        have hK : ∀ t, f_X7_determinant_j128 (zJ (psm f c), nI c) K2 t = K2 (t, nI (c + 1)) := fun t => by
          unfold f_X7_determinant_j128
          rw [lt_e, nI_1]
        have hfc : psm f (c + 1) = psm f c + (if S.testBit c then sg S c * V k c * mnS V (S ^^^ 2 ^ c) else 0) := by
          show psm f c + f c = _
          rw [← hf]
        have hC1 : ξ.2 58 = σ.2 58 := h1.2 58 (by decide)
        have hC2 : ξ.2 57 = σ.2 57 := h1.2 57 (by decide)
        have hEe := hE k hk5 c hc
        unfold f_X7_determinant_l31
        dsimp only
        rw [show ∀ y z : Option (Int64 × Hp), (if (5 : Int32) ≤ nI c then y else z) = z from fun y z => le_f (a := 5) (by omega) (by omega), jn_e, bit1 (by omega) (by omega), hfc]
        by_cases hb : S.testBit c = true
        · obtain ⟨q1, q2⟩ := pc_x S hS c hc hb
          have hq := Nat.xor_lt_two_pow (n := 5) (show S < 2 ^ 5 by omega) (Nat.pow_lt_pow_right (a := 2) (n := 5) (by omega) hc)
          have hsg := sg_pc S hS c hc
          rw [if_pos hb] at hsg
          have hent : ∀ G : Int64 → Option (Int64 × Hp), (if nI c = a1 then ldJ ξ 58 5 (nI k) fun v20 => G v20 else ldJ ξ 57 25 (nI k * 5 + nI c) fun v21 => G v21) = G (zJ (V k c)) := fun G => by
            rw [show (5 : Int32) = nI 5 from rfl, pk_mul, nI_add, Nat.mul_comm k 5, ldJ_n (by omega) (by omega), ldJ_n (by omega) (by omega), hC1, hC2]
            by_cases e : nI c = a1
            · rw [if_pos e] at hEe ⊢
              rw [hEe]
            · rw [if_neg e] at hEe ⊢
              rw [hEe]
          rw [if_pos hb, jn_e, hent, if_pos hb]
          unfold f_X7_determinant_j73
          dsimp only
          have hsh := sh31 c (by omega)
          have hdv : S / 2 ^ c ≤ S := Nat.div_le_self _ _
          have h2c := two16 (p := c) (by omega)
          rw [shl16 c (by omega), nI_xor (by omega) (by omega), ldJ_n (by omega) (by omega), h2 _ (by omega), zJ_mul, lt_e, hsh.1, pk_shrN (by omega) (nI c) c hsh.2, bc_e (by omega), cr_s, jn_e]
          unfold f_X7_determinant_j108 f_X7_determinant_j125
          dsimp only
          have hpcm : nI (pcN (S / 2 ^ c) 16) &&& (1 : Int32) = nI (pcN (S / 2 ^ c) 16 % 2) := pk_andN (by have := pc_le (S / 2 ^ c) 16; omega) 1 rfl
          rw [hpcm, jn_e, jn_e]
          have hm2 : pcN (S / 2 ^ c) 16 % 2 < 2 := Nat.mod_lt _ (by omega)
          by_cases hz : pcN (S / 2 ^ c) 16 % 2 = 0
          · rw [if_pos hz] at hsg
            rw [hz, if_pos (show nI 0 = 0 from rfl), if_neg (by decide)]
            dsimp only
            rw [lt_e, zJ_neg, zJ_add, hK, hsg, Int.mul_assoc, Int.neg_mul, Int.one_mul]
          · rw [if_neg hz] at hsg
            rw [if_neg (nI_ne0 (by omega) (by omega)), if_pos rfl]
            dsimp only
            rw [lt_e, zJ_add, hK, hsg, Int.mul_assoc, Int.one_mul]
        · rw [if_neg hb, if_neg hb, hK, Int.add_zero]
      · intro K2
        unfold f_X7_determinant_l31
        dsimp only
        rw [show ∀ y z : Option (Int64 × Hp), (if (5 : Int32) ≤ nI 5 then y else z) = y from fun y z => le_t (a := 5) (Nat.le_refl _) (by omega), ← hend]
        unfold f_X7_determinant_j134
        dsimp only
        rw [stJ_n (by omega) (by omega), lt_e, nI_1]
  · rintro ξ ⟨h1, h2⟩ K
    unfold f_X7_determinant_l9
    dsimp only
    rw [show ∀ y z : Option (Int64 × Hp), (if (32 : Int32) ≤ nI 32 then y else z) = y from fun y z => le_t (a := 32) (Nat.le_refl _) (by omega)]
    unfold f_X7_determinant_j148
    rw [show (32 : Int32) - 1 = nI 31 from by decide, ldJ_n (by omega) (by omega), h2 31 (by omega), mnS_31]
    exact ⟨ξ, rfl, h1⟩
  · rw [sJ_at, if_pos ⟨rfl, by omega⟩, show T = 0 by omega, mnS_0]
    rfl
