/-! ===== acts: undone and done again ===== -/
theorem RR_acts {n : Nat} {σ τ σ' τ' : Hp} (h : RR n σ τ) (kc : ∀ q, q ∉ [1, 13, 25, 26, 27, 28] → σ'.1 q = σ.1 q) (k1 : ∀ j, j ≠ 10 → j ≠ 15 → σ'.1 1 j = σ.1 1 j) (k13 : σ'.1 13 0 = σ.1 13 0) (km : ∀ q, q ∉ [86, 104, 105, 106, 122, 123, 124, 125] → τ'.1 q = τ.1 q) (k86 : ∀ j, j ≠ 50 → j ≠ 51 → τ'.1 86 j = τ.1 86 j)
    (hA : RA (σ'.1 25) (σ'.1 26) (σ'.1 27) (σ'.1 28) (τ'.1 86 50) (τ'.1 86 51) (τ'.1 122) (τ'.1 123) (τ'.1 124) (τ'.1 125) (σ'.1 1 10) (σ'.1 1 15) (σ'.1 13 1) (τ'.1 104) (τ'.1 105) (τ'.1 106) (σ.1 1 6) (σ.1 1 11) (σ.1 12)) : RR n σ' τ' := by
  obtain ⟨hF, hP, hG, -, hT, hU, hg, hcc, hs, hd, ho, hX⟩ := h
  have i1 : σ'.1 1 0 = σ.1 1 0 := k1 0 (by decide) (by decide)
  have i6 : σ'.1 1 6 = σ.1 1 6 := k1 6 (by decide) (by decide)
  have i11 : σ'.1 1 11 = σ.1 1 11 := k1 11 (by decide) (by decide)
  unfold RR
  simp (disch := decide) only [kc, km, k86, i1, i6, i11, k13]
  refine ⟨hF, ?_, hG, ?_, hT, hU, hg, hcc, hs, hd, ho, hX⟩
  · unfold RP at hP ⊢
    simp only [i1, i6, i11]
    exact hP
  · exact hA
theorem bN_1 (m q : Nat) : (if bN m q = 1 then (1 : Int32) else 0) = bN m q := by
  unfold bN
  cases m.testBit q <;> rfl
theorem bN_a (m q : Nat) : (if bN m q &&& 1 = 1 then (1 : Int32) else 0) = bN m q := by
  unfold bN
  cases m.testBit q <;> rfl
theorem bN_l (m q : Nat) : (if bN m q ≤ 1 then (0 : Int32) else 1) = 0 := by
  unfold bN
  cases m.testBit q <;> rfl
theorem bN_up {f : Nat → Int32} {m m' q : Nat} {v : Int32} (hf : ∀ k, f k = bN m k) (h : ∀ k, k ≠ q → m'.testBit k = m.testBit k) (hv : v = bN m' q) : ∀ k, upd f q v k = bN m' k := by
  intro k
  by_cases e : k = q
  · rw [e, pk_us, hv]
  · rw [pk_un e, hf]
    unfold bN
    rw [h k e]
/-- the model's cells of the switches -/
def SwM (τ : Hp) (so sn sw : Nat) : Prop := ∀ k, τ.1 104 k = bN so k ∧ τ.1 105 k = bN sn k ∧ τ.1 106 k = bN sw k
theorem nar_bN (m q : Nat) : vp_nar .boolean (bN m q) = bN m q := by
  unfold bN
  cases m.testBit q <;> rfl
/-- a valve becomes -/
theorem bec_0 {τ : Hp} {so sn sw so' q : Nat} (hq : q < 12) (hs : SwM τ so sn sw) (h : ∀ k, k ≠ q → so'.testBit k = so.testBit k) : ∃ τ', f_X12_becomes 0 (nI q) (bN so' q) τ = some τ' ∧ SwM τ' so' sn sw ∧ fr [104, 105, 106] τ τ' := by
  refine ⟨sI τ 104 q (bN so' q), ?_, fun k => ⟨?_, (hs k).2.1, (hs k).2.2⟩, fr_s (by decide) (fr_0 _ _)⟩
  · unfold f_X12_becomes f_X12_becomes_j19
    have hb := bN_1 so' q
    rw [if_pos rfl, jn_e]
    by_cases e : bN so' q = 1
    · rw [if_pos e]
      dsimp only
      rw [stZ_n (by omega) (by omega), e]; rfl
    · rw [if_neg e] at hb ⊢
      dsimp only
      rw [stZ_n (by omega) (by omega), ← hb]; rfl
  · exact bN_up (fun k => (hs k).1) h rfl k
theorem bec_j {τ : Hp} {a v : Int32} {q : Nat} (hq : q < 8) (hv : v = 0 ∨ v = 1) : f_X12_becomes_j38 (nI q) a τ v = some (sI (sI τ 105 q v) 106 q (if a ≤ 1 then (0 : Int32) else 1)) := by
  unfold f_X12_becomes_j38 f_X12_becomes_j54
  rw [stZ_n (by omega) (by omega), jn_e]
  by_cases e2 : a ≤ 1
  · rw [if_pos e2, if_pos e2]
    dsimp only
    rw [stZ_n (by omega) (by omega)]
    rcases hv with rfl | rfl <;> rfl
  · rw [if_neg e2, if_neg e2]
    dsimp only
    rw [stZ_n (by omega) (by omega)]
    rcases hv with rfl | rfl <;> rfl
/-- a pump becomes -/
theorem bec_1 {τ : Hp} {so sn sw sn' sw' q : Nat} {k a : Int32} (hk : k ≠ 0) (hq : q < 8) (hs : SwM τ so sn sw) (h : ∀ k, k ≠ q → sn'.testBit k = sn.testBit k ∧ sw'.testBit k = sw.testBit k) (h1 : (if a &&& 1 = 1 then (1 : Int32) else 0) = bN sn' q) (h2 : (if a ≤ 1 then (0 : Int32) else 1) = bN sw' q) : ∃ τ', f_X12_becomes k (nI q) a τ = some τ' ∧ SwM τ' so sn' sw' ∧ fr [104, 105, 106] τ τ' := by
  refine ⟨sI (sI τ 105 q (bN sn' q)) 106 q (bN sw' q), ?_, fun k => ⟨(hs k).1, ?_, ?_⟩, fr_s (by decide) (fr_s (by decide) (fr_0 _ _))⟩
  · unfold f_X12_becomes
    rw [if_neg hk, jn_e, ← h1, ← h2]
    by_cases e1 : a &&& 1 = 1
    · rw [if_pos e1, if_pos e1, bec_j hq (Or.inr rfl)]
    · rw [if_neg e1, if_neg e1, bec_j hq (Or.inl rfl)]
  · exact bN_up (fun k => (hs k).2.1) (fun k hk => (h k hk).1) rfl k
  · exact bN_up (fun k => (hs k).2.2) (fun k hk => (h k hk).2) rfl k
theorem xor_t {s q : Nat} (k : Nat) (hk : k ≠ q) : (s ^^^ 2 ^ q).testBit k = s.testBit k := by
  rw [Nat.testBit_xor, Nat.testBit_two_pow, decide_eq_false (fun e => hk e.symm), Bool.xor_false]
theorem clr8_t {s q : Nat} (hs : s < 2 ^ 8) (hq : q < 8) (k : Nat) : (s &&& (2 ^ 8 - 1 - 2 ^ q)).testBit k = (s.testBit k && !decide (k = q)) := by
  rw [Nat.sub_sub, Nat.add_comm 1, Nat.testBit_and, Nat.testBit_two_pow_sub_succ (Nat.pow_lt_pow_right (by omega) hq), Nat.testBit_two_pow]
  by_cases hk : k < 8
  · rw [decide_eq_true hk, Bool.true_and]
    congr 2
    exact decide_eq_decide.2 eq_comm
  · rw [tb_big hs (by omega), Bool.false_and, Bool.false_and]
theorem or_t {s q : Nat} (k : Nat) : (s ||| 2 ^ q).testBit k = (s.testBit k || decide (k = q)) := by
  rw [Nat.testBit_or, Nat.testBit_two_pow]
  congr 1
  exact decide_eq_decide.2 eq_comm
/-- the model goes forth -/
theorem m_remove {τ : Hp} {so sn sw so' sn' sw' : Nat} {kind num onb mk mo mw mi pipes pumps : Int32} {lim : Nat → Int32} (hs : SwM τ so sn sw) (hp : bd pipes 0 12) (hu : bd pumps 0 8) (hS : SO so sn sw pipes pumps lim) (hA : AO so sn sw so' sn' sw' kind num onb mk mo mw mi pipes pumps) : ∃ τ', f_X12_becomes mk mo mi τ = some τ' ∧ SwM τ' so' sn' sw' ∧ fr [104, 105, 106] τ τ' := by
  obtain ⟨q, -, rfl, ⟨-, rfl, hq, rfl, rfl, rfl, -, rfl⟩ | ⟨-, rfl, hq, rfl, rfl, rfl, hw, -, -, rfl⟩ | ⟨-, rfl, hq, rfl, rfl, rfl, hw, -, -, rfl⟩⟩ := hA
  · exact bec_0 (by have := hp.2; omega) hs (fun k hk => xor_t k hk)
  · refine bec_1 (by decide) (by have := hu.2; omega) hs (fun k hk => ⟨xor_t k hk, rfl⟩) (bN_a _ _) ?_
    rw [bN_l]; unfold bN; rw [hw]; rfl
  · have hq8 : q < 8 := by have := hu.2; omega
    refine bec_1 (by decide) hq8 hs (fun k hk => ⟨?_, ?_⟩) ?_ ?_
    · rw [clr8_t hS.2.1 hq8, decide_eq_false hk, Bool.not_false, Bool.and_true]
    · rw [or_t, decide_eq_false hk, Bool.or_false]
    · unfold bN; rw [clr8_t hS.2.1 hq8, decide_eq_true rfl, Bool.not_true, Bool.and_false]; rfl
    · unfold bN; rw [or_t, decide_eq_true rfl, Bool.or_true]; rfl
/-- the model goes back -/
theorem m_unmove {τ : Hp} {so sn sw so' sn' sw' : Nat} {kind num onb mk mo mw mi pipes pumps : Int32} {lim : Nat → Int32} (hs : SwM τ so' sn' sw') (hp : bd pipes 0 12) (hu : bd pumps 0 8) (hS : SO so sn sw pipes pumps lim) (hA : AO so sn sw so' sn' sw' kind num onb mk mo mw mi pipes pumps) : ∃ τ', f_X12_becomes mk mo mw τ = some τ' ∧ SwM τ' so sn sw ∧ fr [104, 105, 106] τ τ' := by
  obtain ⟨q, -, rfl, ⟨-, rfl, hq, rfl, rfl, rfl, rfl, -⟩ | ⟨-, rfl, hq, rfl, rfl, rfl, hw, -, rfl, -⟩ | ⟨-, rfl, hq, rfl, rfl, rfl, hw, -, rfl, -⟩⟩ := hA
  · exact bec_0 (by have := hp.2; omega) hs (fun k hk => (xor_t k hk).symm)
  · refine bec_1 (by decide) (by have := hu.2; omega) hs (fun k hk => ⟨(xor_t k hk).symm, rfl⟩) (bN_a _ _) ?_
    rw [bN_l]; unfold bN; rw [hw]; rfl
  · have hq8 : q < 8 := by have := hu.2; omega
    refine bec_1 (by decide) hq8 hs (fun k hk => ⟨?_, ?_⟩) (bN_a _ _) ?_
    · rw [clr8_t hS.2.1 hq8, decide_eq_false hk, Bool.not_false, Bool.and_true]
    · rw [or_t, decide_eq_false hk, Bool.or_false]
    · rw [bN_l]; unfold bN; rw [hw]; rfl
