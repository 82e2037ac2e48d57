/-- rules: what both keep of them (their meanings: RV) -/
def RU (r32 c33 c34 : Nat → Int32) (m38 : Int32) (m116 m117 m119 : Nat → Int32) (st : Nat → Nat → Int32) : Prop :=
  r32 2 = m38 ∧ bd (r32 2) 0 16 ∧ ∃ s p : Nat, r32 3 = nI s ∧ r32 4 = nI p ∧ s < 2 ^ 16 ∧ p < 2 ^ 16 ∧ (∀ k : Nat, (r32 2).toInt ≤ k → s.testBit k = false ∧ p.testBit k = false) ∧
    ∀ r : Nat, (r : Int) < (r32 2).toInt → m119 r = (if s.testBit r then 0 else 1) ∧ bd (c33 r) 0 9 ∧ m116 (40 * r) = (if p.testBit r then 80 else 86) ∧ m116 (40 * r + 1) = 48 + c33 r ∧ RV (fun k => m116 (40 * r + k)) (m117 r) (c34 r) (st r)
/-- behind the rows that count, the grains ahead are as the grains -/
def RX (c14 c15 c16 c17 c20 c21 c22 c23 : Nat → Int32) : Prop := (∀ k, 15 ≤ k → c20 k = c14 k) ∧ (∀ k, 15 ≤ k → c21 k = c15 k) ∧ (∀ k, 24 ≤ k → c22 k = c16 k) ∧ ∀ k, 3 ≤ k → c23 k = c17 k
def RR (n : Nat) (σ τ : Hp) : Prop :=
  (σ.1 85 = τ.1 87) ∧
  RP (σ.1 1) (σ.1 2) (σ.1 3) (σ.1 4) (σ.1 5) (σ.1 6) (σ.1 7) (σ.1 8) (σ.1 9) (σ.1 10) (σ.1 11) (σ.1 12) (τ.1 86 20) (τ.1 86 21) (τ.1 86 22) (τ.1 88) (τ.1 89) (τ.1 90) (τ.1 91) (τ.1 92) (τ.1 93) (τ.1 94) (τ.1 95) (τ.1 96) (τ.1 97) (τ.1 98) ∧
  RG n (σ.1 13 0) (τ.1 86 23) (σ.1 14) (σ.1 15) (σ.1 16) (σ.1 17) (τ.1 99) (τ.1 100) (τ.1 101) (τ.1 102) (τ.1 103) (σ.1 12) (σ.1 1 11) ∧
  RA (σ.1 25) (σ.1 26) (σ.1 27) (σ.1 28) (τ.1 86 50) (τ.1 86 51) (τ.1 122) (τ.1 123) (τ.1 124) (τ.1 125) (σ.1 1 10) (σ.1 1 15) (σ.1 13 1) (τ.1 104) (τ.1 105) (τ.1 106) (σ.1 1 6) (σ.1 1 11) (σ.1 12) ∧
  RT (σ.1 29 1) (σ.1 30) (τ.1 86 37) (τ.1 115) ∧
  RU (σ.1 32) (σ.1 33) (σ.1 34) (τ.1 86 38) (τ.1 116) (τ.1 117) (τ.1 119) (r16 (σ.1 36) (σ.1 37) (σ.1 38) (σ.1 39) (σ.1 40) (σ.1 41) (σ.1 42) (σ.1 43) (σ.1 44) (σ.1 45) (σ.1 46) (σ.1 47) (σ.1 48) (σ.1 49) (σ.1 50) (σ.1 51)) ∧
  Rg (σ.1 68) (σ.1 69) (τ.1 137) (τ.1 138) ∧
  Rc (σ.1 73) (σ.1 74) (σ.1 75) (σ.1 76) (τ.1 139) (τ.1 140) (τ.1 141) (τ.1 142) ∧
  Rs (σ.1 77) (σ.1 78) (σ.1 79) (σ.1 80) (σ.1 81) (σ.1 82) (τ.1 86 75) (τ.1 86 76) (τ.1 143) (τ.1 144) (τ.1 145) (τ.1 146) (τ.1 148) ∧
  Rd (σ.1 64) (τ.1 132) (τ.1 135) (τ.1 136) ∧
  Ro (σ.1 54) (σ.1 60) (σ.1 61) (σ.1 62) (τ.1 86 80) (τ.1 149) (τ.1 150) (τ.1 151) (σ.1 1 0) ∧
  RX (σ.1 14) (σ.1 15) (σ.1 16) (σ.1 17) (σ.1 20) (σ.1 21) (σ.1 22) (σ.1 23)
theorem RG_mono {n n' : Nat} (h : n ≤ n') {tick m23 : Int32} {c14 c15 c16 c17 m99 m100 m101 m102 m103 lim : Nat → Int32} {pumps : Int32} (hG : RG n tick m23 c14 c15 c16 c17 m99 m100 m101 m102 m103 lim pumps) : RG n' tick m23 c14 c15 c16 c17 m99 m100 m101 m102 m103 lim pumps := by
  obtain ⟨h1, h2, h3, h4, h5, h6, h7, h8, h9⟩ := hG
  exact ⟨h1, h2, h3, h4, h5, fun g hg => ⟨(h6 g hg).1, by have := (h6 g hg).2; omega⟩, h7, h8, h9⟩
theorem RR_ref {n k : Nat} {σ τ : Hp} (h : RR n σ τ) : RR (n + 1) (rfC k σ) (rfM k τ) := by
  obtain ⟨hF, hP, hG, hA, hT, hU, hg, hc, hs, hd, ho⟩ := h
  refine ⟨?_, hP, RG_mono (Nat.le_succ n) hG, hA, hT, hU, hg, hc, hs, hd, ho⟩
  show upd (σ.1 85) k (σ.1 85 k + 1) = upd (τ.1 87) k (τ.1 87 k + 1)
  rw [hF]
theorem RR_same {n : Nat} {σ τ : Hp} (h : RR n σ τ) : RR (n + 1) σ τ := by
  obtain ⟨hF, hP, hG, hA, hT, hU, hg, hc, hs, hd, ho⟩ := h
  exact ⟨hF, hP, RG_mono (Nat.le_succ n) hG, hA, hT, hU, hg, hc, hs, hd, ho⟩
theorem ix3 {a b : Int32} (h1 : 0 ≤ a.toInt ∧ a.toInt < 100) (h2 : 0 ≤ b.toInt ∧ b.toInt < 3) : (a * 3 + b).toInt = 3 * a.toInt + b.toInt := by
  have e : (a * 3).toInt = a.toInt * 3 := by rw [mulI (by rw [l_3]; omega) (by rw [l_3]; omega), l_3]
  rw [addI (by rw [e]; omega) (by rw [e]; omega), e]
  omega
theorem ix3' (a b : Int32) : 3 * a + b = a * 3 + b := by rw [Int32.mul_comm]
theorem bd_upd {f : Nat → Int32} {lo hi : Int} (h : ∀ k, bd (f k) lo hi) {x : Int32} (hx : bd x lo hi) (j : Nat) : ∀ k, bd (upd f j x k) lo hi := by
  intro k
  unfold upd
  split
  · exact hx
  · exact h k
/-- both answer alike, and the heaps stay related -/
def Ok32 (n : Nat) (x y : Option (Int32 × Hp)) : Prop := ∃ r σ' τ', x = some (r, σ') ∧ y = some (r, τ') ∧ RR (n + 1) σ' τ'
def Ok64 (n : Nat) (x y : Option (Int64 × Hp)) : Prop := ∃ r σ' τ', x = some (r, σ') ∧ y = some (r, τ') ∧ RR (n + 1) σ' τ'
theorem ok_ref {n k : Nat} {v : Int32} {σ τ : Hp} (h : RR n σ τ) : Ok32 n (some (v, rfC k σ)) (some (v, rfM k τ)) := ⟨_, _, _, rfl, rfl, RR_ref h⟩
theorem ok_refL {n k : Nat} {v : Int64} {σ τ : Hp} (h : RR n σ τ) : Ok64 n (some (v, rfC k σ)) (some (v, rfM k τ)) := ⟨_, _, _, rfl, rfl, RR_ref h⟩
theorem st_sees (n : Nat) (a b c : Int32) {σ τ : Hp} (h : RR n σ τ) : Ok32 n (f_X11_sees a b c σ) (f_X12_sees a b c τ) := by
  simp only [f_X11_sees, f_X11_sees_j43, f_X11_sees_j32, f_X11_sees_j22, f_X11_sees_j17, f_X12_sees, f_X12_sees_j19, jn_e, lt_e, k_within, k_isIn, k_isGas, k_out, cl_s, rf_1, rf_2, rf_4, rf_6, rf_0, e_no1, e_no4, e_no6, n1z, n4z, n6z, z0z, z1z, i32_le, l_0, l_3, l_9, d_0, d_2, d_9, Int.reduceAdd, if_true, if_false]
  by_cases h1 : 0 ≤ a.toInt ∧ a.toInt < 3
  · simp only [if_pos h1]
    by_cases h2 : 0 ≤ b.toInt ∧ b.toInt < 3
    · simp only [if_pos h2]
      by_cases h3 : 0 ≤ c.toInt
      · simp only [if_pos h3, if_neg (Int.not_lt.mpr h3)]
        by_cases h4 : c.toInt ≤ 9
        · simp only [if_pos h4, if_neg (Int.not_lt.mpr h4)]
          have e := ix3 (a := a) (b := b) (by omega) h2
          rw [ix3' a b, ldI_ok (by omega) (by omega), ldI_ok (by omega) (by omega), stI_ok (by omega) (by omega), stI_ok (by omega) (by omega)]
          obtain ⟨hF, hP, hG, hA, hT, hU, hg, hc, hs, hd, ho⟩ := h
          obtain ⟨g1, g2, g3, g4⟩ := hg
          refine ⟨_, sI σ 68 (a * 3 + b).toNatClampNeg c, sI τ 137 (a * 3 + b).toNatClampNeg c, rfl, by rw [g1], hF, hP, RG_mono (Nat.le_succ n) hG, hA, hT, hU, ⟨?_, g2, bd_upd g3 ⟨h3, h4⟩ _, g4⟩, hc, hs, hd, ho⟩
          show upd (σ.1 68) _ c = upd (τ.1 137) _ c
          rw [g1]
        · simp only [if_neg h4, if_pos (Int.lt_of_not_ge h4)]
          exact ok_ref h
      · simp only [if_neg h3, if_pos (Int.lt_of_not_ge h3), ite_self]
        exact ok_ref h
    · simp only [if_neg h2, ite_self]
      exact ok_ref h
  · simp only [if_neg h1, ite_self]
    exact ok_ref h
