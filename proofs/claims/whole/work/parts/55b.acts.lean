/-! ===== acts: the class goes back ===== -/
theorem shl16 : ∀ p, p < 16 → ((1 : Int32) <<< (nI p &&& 31)) = nI (2 ^ p) := by decide +kernel
theorem two16 {p : Nat} (hp : p < 16) : 2 ^ p < 65536 := Nat.pow_lt_pow_right (a := 2) (n := 16) (by omega) hp
theorem xor_C {s q : Nat} (hs : s < 65536) (hq : q < 16) : (nI s ^^^ ((1 : Int32) <<< (nI q &&& 31))) = nI (s ^^^ 2 ^ q) := by
  rw [shl16 q hq, nI_xor (by omega) (by have := two16 hq; omega)]
theorem xor_2 (s q : Nat) : s ^^^ 2 ^ q ^^^ 2 ^ q = s := by rw [Nat.xor_assoc, Nat.xor_self, Nat.xor_zero]
theorem xor2_lt {s q b : Nat} (hs : s < 2 ^ b) (hq : q < b) : s ^^^ 2 ^ q < 2 ^ b := Nat.xor_lt_two_pow hs (Nat.pow_lt_pow_right (by omega) hq)
theorem or_clr {s q : Nat} (hs : s < 2 ^ 8) (hq : q < 8) (h : s.testBit q = false) : (nI (s ||| 2 ^ q) &&& (((1 : Int32) <<< (nI q &&& 31)) ^^^ (-1 : Int32))) = nI s := by
  have hl : s ||| 2 ^ q < 2 ^ 8 := Nat.or_lt_two_pow hs (Nat.pow_lt_pow_right (by omega) hq)
  rw [clr_n _ (by omega) q (by omega)]
  congr 1
  apply Nat.eq_of_testBit_eq
  intro k
  rw [clr_t _ (by omega) q (by omega), or_t]
  by_cases e : k = q
  · subst e; rw [decide_eq_true rfl, h]; rfl
  · rw [decide_eq_false e, Bool.or_false, Bool.not_false, Bool.and_true]
theorem nI_p (j : Nat) : nI (j + 1) - 1 = nI j := by
  show nI (j + 1) - nI 1 = nI j
  rw [pk_sub (by omega)]; rfl
theorem t20 {β : Sort _} (x y : β) : (if (2 : Int32) = 0 then x else y) = y := if_neg (by decide)
theorem t12 {β : Sort _} (x y : β) : (if (1 : Int32) = 2 then x else y) = y := if_neg (by decide)
theorem t21 {β : Sort _} (x y : β) : (if (2 : Int32) = 1 then x else y) = y := if_neg (by decide)
theorem t22 {β : Sort _} (x y : β) : (if (2 : Int32) = 2 then x else y) = x := if_pos rfl
theorem t11 {β : Sort _} (x y : β) : (if (1 : Int32) = 1 then x else y) = x := if_pos rfl
/-- the class's heap after a step among the acts -/
def BK (σ σ' : Hp) (d u so sn sw : Nat) : Prop := σ'.1 25 3 = nI d ∧ σ'.1 25 4 = nI u ∧ σ'.1 1 10 = nI so ∧ σ'.1 1 15 = nI sn ∧ σ'.1 13 1 = nI sw ∧ (∀ q, q ∉ [1, 13, 25] → σ'.1 q = σ.1 q) ∧ (∀ j, j ≠ 10 → j ≠ 15 → σ'.1 1 j = σ.1 1 j) ∧ σ'.1 13 0 = σ.1 13 0
theorem c_unmove {σ : Hp} {j u so sn sw so' sn' sw' : Nat} {mk mo mw mi pipes pumps : Int32} {lim : Nat → Int32} (hj : j < 30) (hu : u < 30) (h3 : σ.1 25 3 = nI (j + 1)) (h4 : σ.1 25 4 = nI u) (ho : σ.1 1 10 = nI so') (hn : σ.1 1 15 = nI sn') (hw : σ.1 13 1 = nI sw') (hp : bd pipes 0 12) (hq : bd pumps 0 8) (hS : SO so sn sw pipes pumps lim) (hA : AO so sn sw so' sn' sw' (σ.1 26 j) (σ.1 27 j) (σ.1 28 j) mk mo mw mi pipes pumps) : ∃ σ', f_X0_takeBack σ = some (1, σ') ∧ BK σ σ' j (u + 1) so sn sw := by
  have h0 : (0 : Int32) < nI (j + 1) := Int32.lt_iff_toInt_lt.2 (by rw [nI_toInt (by omega), l_0]; omega)
  obtain ⟨q, e27, -, ⟨e26, -, hqq, rfl, rfl, rfl, -, -⟩ | ⟨e26, -, hqq, rfl, rfl, rfl, hb, e28, -, -⟩ | ⟨e26, -, hqq, rfl, rfl, rfl, hb, e28, -, -⟩⟩ := hA
  · refine ⟨sI (sI (sI σ 25 3 (nI j)) 25 4 (nI (u + 1))) 1 10 (nI so), ?_, ?_⟩
    · have hq12 : q < 12 := by have := hp.2; omega
      have hx : (nI (so ^^^ 2 ^ q) ^^^ ((1 : Int32) <<< (nI q &&& 31))) = nI so := by
        rw [xor_C (by have := xor2_lt hS.1 hq12; omega) (by omega), xor_2]
      unfold f_X0_takeBack
      rw [h3, if_pos h0, nI_p]
      simp (disch := omega) only [lt_e, sI_1, upd_at, reduceIte, Nat.reduceEqDiff, h4, nI_1, ldI_n, e26, e27, ho, hx, ckZ_1]
    · refine ⟨rfl, rfl, rfl, hn, hw, fun q hq => ?_, fun k h1 h2 => ?_, rfl⟩
      · simp only [List.mem_cons, List.not_mem_nil, or_false, not_or] at hq
        simp only [sI_1, if_neg hq.1, if_neg hq.2.2]
      · show upd (σ.1 1) 10 _ k = _
        rw [pk_un h1]
  · refine ⟨sI (sI (sI σ 25 3 (nI j)) 25 4 (nI (u + 1))) 1 15 (nI sn), ?_, ?_⟩
    · unfold f_X0_takeBack
      rw [h3, if_pos h0, nI_p]
      simp (disch := omega) only [lt_e, sI_1, upd_at, reduceIte, Nat.reduceEqDiff, h4, nI_1, ldI_n, e26, e27, e28, z1z, t12, ckZ_1]
    · refine ⟨rfl, rfl, ho, rfl, hw, fun q hq => ?_, fun k h1 h2 => ?_, rfl⟩
      · simp only [List.mem_cons, List.not_mem_nil, or_false, not_or] at hq
        simp only [sI_1, if_neg hq.1, if_neg hq.2.2]
      · show upd (σ.1 1) 15 _ k = _
        rw [pk_un h2]
  · refine ⟨sI (sI (sI (sI σ 25 3 (nI j)) 25 4 (nI (u + 1))) 1 15 (nI sn)) 13 1 (nI sw), ?_, ?_⟩
    · have hq8 : q < 8 := by have := hq.2; omega
      have hx := or_clr hS.2.2.1 hq8 hb
      unfold f_X0_takeBack
      rw [h3, if_pos h0, nI_p]
      simp (disch := omega) only [lt_e, sI_1, upd_at, reduceIte, Nat.reduceEqDiff, h4, nI_1, ldI_n, e26, e27, e28, t20, t22, hw, hx, ckZ_1]
    · refine ⟨rfl, rfl, ho, rfl, rfl, fun q hq => ?_, fun k h1 h2 => ?_, rfl⟩
      · simp only [List.mem_cons, List.not_mem_nil, or_false, not_or] at hq
        simp only [sI_1, if_neg hq.1, if_neg hq.2.1, if_neg hq.2.2]
      · show upd (σ.1 1) 15 _ k = _
        rw [pk_un h2]
theorem c_remove {σ : Hp} {j u so sn sw so' sn' sw' : Nat} {mk mo mw mi pipes pumps : Int32} {lim : Nat → Int32} (hj : j < 30) (hu : u < 30) (h3 : σ.1 25 3 = nI j) (h4 : σ.1 25 4 = nI (u + 1)) (ho : σ.1 1 10 = nI so) (hn : σ.1 1 15 = nI sn) (hw : σ.1 13 1 = nI sw) (hp : bd pipes 0 12) (hq : bd pumps 0 8) (hS : SO so sn sw pipes pumps lim) (hA : AO so sn sw so' sn' sw' (σ.1 26 j) (σ.1 27 j) (σ.1 28 j) mk mo mw mi pipes pumps) : ∃ σ', f_X0_repeat σ = some (1, σ') ∧ BK σ σ' (j + 1) u so' sn' sw' := by
  have h0 : ¬ (nI (u + 1) ≤ 0) := fun hh => absurd (Int32.le_iff_toInt_le.1 hh) (by rw [nI_toInt (by omega), l_0]; omega)
  have h30 : nI j < (30 : Int32) := Int32.lt_iff_toInt_lt.2 (by rw [nI_toInt (by omega)]; show (j : Int) < 30; omega)
  obtain ⟨q, e27, -, ⟨e26, -, hqq, rfl, rfl, rfl, -, -⟩ | ⟨e26, -, hqq, rfl, rfl, rfl, hb, e28, -, -⟩ | ⟨e26, -, hqq, rfl, rfl, rfl, hb, e28, -, -⟩⟩ := hA
  · refine ⟨sI (sI (sI σ 1 10 (nI (so ^^^ 2 ^ q))) 25 3 (nI (j + 1))) 25 4 (nI u), ?_, ?_⟩
    · have hq12 : q < 12 := by have := hp.2; omega
      have hx := xor_C (s := so) (q := q) (by have := hS.1; omega) (by omega)
      unfold f_X0_repeat f_X0_repeat_j103
      rw [h4, if_neg h0, h3, if_pos h30]
      simp (disch := omega) only [jn_e, lt_e, sI_1, upd_at, reduceIte, Nat.reduceEqDiff, h3, h4, nI_1, nI_p, ldI_n, e26, e27, ho, hx, ckZ_1, z0z]
    · refine ⟨rfl, rfl, rfl, hn, hw, fun q hq => ?_, fun k h1 h2 => ?_, rfl⟩
      · simp only [List.mem_cons, List.not_mem_nil, or_false, not_or] at hq
        simp only [sI_1, if_neg hq.1, if_neg hq.2.2]
      · show upd (σ.1 1) 10 _ k = _
        rw [pk_un h1]
  · refine ⟨sI (sI (sI σ 1 15 (nI (sn ^^^ 2 ^ q))) 25 3 (nI (j + 1))) 25 4 (nI u), ?_, ?_⟩
    · have hq8 : q < 8 := by have := hq.2; omega
      have hx := xor_C (s := sn) (q := q) (by have := hS.2.1; omega) (by omega)
      unfold f_X0_repeat f_X0_repeat_j103
      rw [h4, if_neg h0, h3, if_pos h30]
      simp (disch := omega) only [jn_e, lt_e, sI_1, upd_at, reduceIte, Nat.reduceEqDiff, h3, h4, nI_1, nI_p, ldI_n, e26, e27, hn, hx, ckZ_1, z1z, t11]
    · refine ⟨rfl, rfl, ho, rfl, hw, fun q hq => ?_, fun k h1 h2 => ?_, rfl⟩
      · simp only [List.mem_cons, List.not_mem_nil, or_false, not_or] at hq
        simp only [sI_1, if_neg hq.1, if_neg hq.2.2]
      · show upd (σ.1 1) 15 _ k = _
        rw [pk_un h2]
  · refine ⟨sI (sI (sI (sI σ 1 15 (nI (sn &&& (2 ^ 8 - 1 - 2 ^ q)))) 13 1 (nI (sw ||| 2 ^ q))) 25 3 (nI (j + 1))) 25 4 (nI u), ?_, ?_⟩
    · have hq8 : q < 8 := by have := hq.2; omega
      have hx : (nI sn &&& (((1 : Int32) <<< (nI q &&& 31)) ^^^ (-1 : Int32))) = nI (sn &&& (2 ^ 8 - 1 - 2 ^ q)) := by
        have hs := hS.2.1
        rw [clr_n _ (by omega) q (by omega)]
        congr 1
        apply Nat.eq_of_testBit_eq
        intro k
        rw [clr_t _ (by omega) q (by omega), clr8_t hs hq8]
      have hy : (nI sw ||| ((1 : Int32) <<< (nI q &&& 31))) = nI (sw ||| 2 ^ q) := by
        rw [shl16 q (by omega), nI_or (by have := hS.2.2.1; omega) (by have := two16 (p := q) (by omega); omega)]
      unfold f_X0_repeat f_X0_repeat_j103
      rw [h4, if_neg h0, h3, if_pos h30]
      simp (disch := omega) only [jn_e, lt_e, sI_1, upd_at, reduceIte, Nat.reduceEqDiff, h3, h4, nI_1, nI_p, ldI_n, e26, e27, hn, hw, hx, hy, ckZ_1, t20, t21]
    · refine ⟨rfl, rfl, ho, rfl, rfl, fun q hq => ?_, fun k h1 h2 => ?_, rfl⟩
      · simp only [List.mem_cons, List.not_mem_nil, or_false, not_or] at hq
        simp only [sI_1, if_neg hq.1, if_neg hq.2.1, if_neg hq.2.2]
      · show upd (σ.1 1) 15 _ k = _
        rw [pk_un h2]
