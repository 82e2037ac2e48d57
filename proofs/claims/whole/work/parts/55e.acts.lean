/-! ===== acts: one is done ===== -/
theorem m_state0 {τ : Hp} {so sn sw q : Nat} (hs : SwM τ so sn sw) (hq : q < 12) : f_X12_stateOf 0 (nI q) τ = some (bN so q) := by
  unfold f_X12_stateOf f_X12_stateOf_j50
  rw [jn_e, if_pos rfl, ldI_n (by omega) (by omega), (hs q).1]
  unfold bN
  cases so.testBit q <;> rfl
theorem m_state1 {τ : Hp} {so sn sw q : Nat} {k : Int32} (hk : k ≠ 0) (hs : SwM τ so sn sw) (hq : q < 8) (hw : sw.testBit q = false) : f_X12_stateOf k (nI q) τ = some (bN sn q) := by
  have hj : ∀ t : Int32, f_X12_stateOf_j35 (nI q) τ f_X12_stateOf_j50 t = some t := fun t => by
    unfold f_X12_stateOf_j35 f_X12_stateOf_j49 f_X12_stateOf_j50
    rw [ldI_n (by omega) (by omega), (hs q).2.2]
    unfold bN
    rw [hw, jn_e]
    show some (t + 0) = _
    rw [Int32.add_zero]
  unfold f_X12_stateOf
  rw [jn_e, if_neg hk, ldI_n (by omega) (by omega), (hs q).2.1, jn_e, hj, hj]
  unfold bN
  cases sn.testBit q <;> rfl
def seqN (d1 off : Nat) (f : Nat → Nat) (x : Nat) (j : Nat) : Nat := if j ≤ d1 then f (j + off) else x
theorem seq_l {d1 off : Nat} {f : Nat → Nat} {x j : Nat} (h : j ≤ d1) : seqN d1 off f x j = f (j + off) := if_pos h
theorem seq_r {d1 off : Nat} {f : Nat → Nat} {x : Nat} : seqN d1 off f x (d1 + 1) = x := if_neg (by omega)
theorem st_do {n : Nat} {σ τ : Hp} (h : RR n σ τ) {d u : Nat} {so sn sw : Nat → Nat} (r3 : σ.1 25 3 = nI d) (m50 : τ.1 86 50 = nI d) (hdu : d + u ≤ 30) (o1 : σ.1 1 10 = nI (so d)) (o2 : σ.1 1 15 = nI (sn d)) (o3 : σ.1 13 1 = nI (sw d)) (o4 : SwM τ (so d) (sn d) (sw d)) (o5 : ∀ j, j ≤ d + u → SO (so j) (sn j) (sw j) (σ.1 1 6) (σ.1 1 11) (σ.1 12))
    (o6 : ∀ j, j < d + u → AO (so j) (sn j) (sw j) (so (j + 1)) (sn (j + 1)) (sw (j + 1)) (σ.1 26 j) (σ.1 27 j) (σ.1 28 j) (τ.1 122 j) (τ.1 123 j) (τ.1 124 j) (τ.1 125 j) (σ.1 1 6) (σ.1 1 11))
    {kind v mw : Int32} {q so' sn' sw' : Nat} (hN : AO (so d) (sn d) (sw d) so' sn' sw' kind (nI q) (nI (sn d)) kind (nI q) mw v (σ.1 1 6) (σ.1 1 11)) (hst : ∀ ρ, SwM ρ (so d) (sn d) (sw d) → f_X12_stateOf kind (nI q) ρ = some mw) (hS' : SO so' sn' sw' (σ.1 1 6) (σ.1 1 11) (σ.1 12)) :
    ∃ σ' τ', f_X0_perform kind (nI q) σ = some σ' ∧ f_X12_acts kind (nI q) v τ = some (1, τ') ∧ RR (n + 1) σ' τ' := by
  obtain ⟨hF, hP, hG, hA, hR⟩ := id h
  have bp : bd (σ.1 1 6) 0 12 := ⟨hP.2.1.2.1.1, hP.2.1.2.1.2⟩
  have bu : bd (σ.1 1 11) 0 8 := ⟨hP.2.1.2.2.1, hP.2.1.2.2.2⟩
  obtain ⟨σ1, a1, a2, a3, a4⟩ := c_room (by omega) r3 kind (nI q)
  obtain ⟨τ1, b1, b2, b3, b4, b5, b6⟩ := m_room (by omega) m50 kind (nI q) v
  have hoff : offN d ≤ d ∧ d - offN d < 30 := by unfold offN; split <;> omega
  generalize hd1 : d - offN d = d1 at a2 a3 b2 b4 hoff
  generalize ho : offN d = off at *
  have hdd : d1 + off = d := by omega
  have kc1 : σ1.1 1 = σ.1 1 := a4 1 (by decide)
  have kc13 : σ1.1 13 = σ.1 13 := a4 13 (by decide)
  -- the class
  generalize h5 : sI (sI (sI (sI σ1 26 d1 kind) 27 d1 (nI q)) 28 d1 (nI (sn d))) 25 4 1 = σ5
  have c5 : ∀ k, k ∉ [25, 26, 27, 28] → σ5.1 k = σ1.1 k := fun k hk => by
    simp only [List.mem_cons, List.not_mem_nil, or_false, not_or] at hk
    rw [← h5]
    simp only [sI_1, if_neg hk.1, if_neg hk.2.1, if_neg hk.2.2.1, if_neg hk.2.2.2]
  have c26 : σ5.1 26 = upd (σ1.1 26) d1 kind := by rw [← h5]; rfl
  have c27 : σ5.1 27 = upd (σ1.1 27) d1 (nI q) := by rw [← h5]; rfl
  have c28 : σ5.1 28 = upd (σ1.1 28) d1 (nI (sn d)) := by rw [← h5]; rfl
  obtain ⟨σ6, e1, e2, e3, e4, e5, e6, e7, e8, e9⟩ := c_remove (σ := σ5) (j := d1) (u := 0) (so := so d) (sn := sn d) (sw := sw d) (so' := so') (sn' := sn') (sw' := sw') (mk := kind) (mo := nI q) (mw := mw) (mi := v) (pipes := σ.1 1 6) (pumps := σ.1 1 11) (lim := σ.1 12) (by omega) (by omega) (by rw [← h5]; exact a2) (by rw [← h5]; rfl) (by rw [c5 1 (by decide), kc1]; exact o1) (by rw [c5 1 (by decide), kc1]; exact o2) (by rw [c5 13 (by decide), kc13]; exact o3) bp bu (o5 d (by omega)) (by rw [c26, c27, c28, pk_us, pk_us, pk_us]; exact hN)
  have hc : f_X0_perform kind (nI q) σ = some (sI σ6 25 4 0) := by
    rw [a1]
    unfold f_X0_perform_j13
    rw [a2, stI_n (by omega) (by omega)]
    rw [show (sI σ1 26 d1 kind).1 25 3 = nI d1 from a2, stI_n (by omega) (by omega)]
    rw [show (sI (sI σ1 26 d1 kind) 27 d1 (nI q)).1 25 3 = nI d1 from a2, show (sI (sI σ1 26 d1 kind) 27 d1 (nI q)).1 1 15 = nI (sn d) from (by rw [← o2, ← kc1]; rfl), stI_n (by omega) (by omega), lt_e, h5, e1, cl_s, lt_e]
  -- the model
  have sw1 : SwM τ1 (so d) (sn d) (sw d) := fun k => by rw [b6 104 (by decide), b6 105 (by decide), b6 106 (by decide)]; exact o4 k
  generalize h8 : sI (sI (sI (sI (sI τ1 122 d1 kind) 123 d1 (nI q)) 124 d1 mw) 125 d1 v) 86 50 (nI (d1 + 1)) = τ8
  have sw8 : SwM τ8 (so d) (sn d) (sw d) := by rw [← h8]; exact sw1
  obtain ⟨τ9, f1, f2, f3⟩ := m_remove sw8 bp bu (o5 d (by omega)) hN
  have hm : f_X12_acts kind (nI q) v τ = some (1, τ9) := by
    rw [b1]
    unfold f_X12_acts_j104
    rw [b2, stI_n (by omega) (by omega)]
    rw [show (sI τ1 122 d1 kind).1 86 50 = nI d1 from b2, stI_n (by omega) (by omega), hst _ (show SwM (sI (sI τ1 122 d1 kind) 123 d1 (nI q)) (so d) (sn d) (sw d) from sw1), cr_s]
    rw [show (sI (sI τ1 122 d1 kind) 123 d1 (nI q)).1 86 50 = nI d1 from b2, stI_n (by omega) (by omega)]
    rw [show (sI (sI (sI τ1 122 d1 kind) 123 d1 (nI q)) 124 d1 mw).1 86 50 = nI d1 from b2, stI_n (by omega) (by omega)]
    rw [show (sI (sI (sI (sI τ1 122 d1 kind) 123 d1 (nI q)) 124 d1 mw) 125 d1 v).1 86 50 = nI d1 from b2, lt_e, nI_1, h8, f1, cr_s]
  refine ⟨sI σ6 25 4 0, τ9, hc, hm, RR_acts (RR_same h) (fun k hk => ?_) (fun k h1 h2 => ?_) ?_ (fun k hk => ?_) (fun k h1 h2 => ?_) ?_⟩
  · simp only [List.mem_cons, List.not_mem_nil, or_false, not_or] at hk
    rw [sI_1, if_neg hk.2.2.1, e7 k (by simp only [List.mem_cons, List.not_mem_nil, or_false, not_or]; exact ⟨hk.1, hk.2.1, hk.2.2.1⟩), c5 k (by simp only [List.mem_cons, List.not_mem_nil, or_false, not_or]; exact hk.2.2), a4 k (by simp only [List.mem_cons, List.not_mem_nil, or_false, not_or]; exact hk.2.2)]
  · show σ6.1 1 k = _
    rw [e8 k h1 h2, c5 1 (by decide), kc1]
  · show σ6.1 13 0 = _
    rw [e9, c5 13 (by decide), kc13]
  · simp only [List.mem_cons, List.not_mem_nil, or_false, not_or] at hk
    rw [f3 k (by simp only [List.mem_cons, List.not_mem_nil, or_false, not_or]; exact ⟨hk.2.1, hk.2.2.1, hk.2.2.2.1⟩), ← h8]
    simp only [sI_1, if_neg hk.1, if_neg hk.2.2.2.2.1, if_neg hk.2.2.2.2.2.1, if_neg hk.2.2.2.2.2.2.1, if_neg hk.2.2.2.2.2.2.2]
    exact b6 k (by simp only [List.mem_cons, List.not_mem_nil, or_false, not_or]; exact ⟨hk.1, hk.2.2.2.2⟩)
  · rw [f3 86 (by decide), ← h8]
    show upd (τ1.1 86) 50 _ k = _
    rw [pk_un h1]; exact b5 k h1 h2
  · have g26 : (sI σ6 25 4 0).1 26 = upd (σ1.1 26) d1 kind := by rw [← c26]; exact e7 26 (by decide)
    have g27 : (sI σ6 25 4 0).1 27 = upd (σ1.1 27) d1 (nI q) := by rw [← c27]; exact e7 27 (by decide)
    have g28 : (sI σ6 25 4 0).1 28 = upd (σ1.1 28) d1 (nI (sn d)) := by rw [← c28]; exact e7 28 (by decide)
    have g122 : τ9.1 122 = upd (τ1.1 122) d1 kind := by rw [f3 122 (by decide), ← h8]; rfl
    have g123 : τ9.1 123 = upd (τ1.1 123) d1 (nI q) := by rw [f3 123 (by decide), ← h8]; rfl
    have g124 : τ9.1 124 = upd (τ1.1 124) d1 mw := by rw [f3 124 (by decide), ← h8]; rfl
    have g125 : τ9.1 125 = upd (τ1.1 125) d1 v := by rw [f3 125 (by decide), ← h8]; rfl
    have g50 : τ9.1 86 50 = nI (d1 + 1) := by rw [f3 86 (by decide), ← h8]; rfl
    have g51 : τ9.1 86 51 = nI 0 := by rw [f3 86 (by decide), ← h8]; exact b3
    rw [g26, g27, g28, g122, g123, g124, g125]
    refine ⟨d1 + 1, 0, ⟨e2, g50, rfl, g51, by omega⟩, seqN d1 off so so', seqN d1 off sn sn', seqN d1 off sw sw', ?_, ?_, ?_, ?_⟩
    · rw [seq_r, seq_r, seq_r]; exact ⟨e4, e5, e6⟩
    · rw [seq_r, seq_r, seq_r]; exact f2
    · intro j hj
      by_cases e : j ≤ d1
      · rw [seq_l e, seq_l e, seq_l e]; exact o5 _ (by omega)
      · obtain rfl : j = d1 + 1 := by omega
        rw [seq_r, seq_r, seq_r]; exact hS'
    · intro j hj
      by_cases e : j = d1
      · subst e
        rw [seq_l (Nat.le_refl _), seq_l (Nat.le_refl _), seq_l (Nat.le_refl _), seq_r, seq_r, seq_r, hdd, pk_us, pk_us, pk_us, pk_us, pk_us, pk_us, pk_us]
        exact hN
      · have hj1 : j < d1 := by omega
        rw [seq_l (by omega), seq_l (by omega), seq_l (by omega), seq_l (by omega), seq_l (by omega), seq_l (by omega), pk_un e, pk_un e, pk_un e, pk_un e, pk_un e, pk_un e, pk_un e]
        obtain ⟨x1, x2, x3⟩ := a3 j hj1
        obtain ⟨y1, y2, y3, y4⟩ := b4 j hj1
        rw [x1, x2, x3, y1, y2, y3, y4, show j + 1 + off = j + off + 1 by omega]
        exact o6 (j + off) (by omega)
