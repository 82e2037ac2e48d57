/-! ===== undo, redo ===== -/
theorem st_undo (n : Nat) {σ τ : Hp} (h : RR n σ τ) : Ok32 n (f_X11_undo σ) (f_X12_undo τ) := by
  obtain ⟨hF, hP, hG, hA, hR⟩ := id h
  obtain ⟨d, u, ⟨r3, m50, r4, m51, hdu⟩, so, sn, sw, ⟨o1, o2, o3⟩, o4, o5, o6⟩ := hA
  unfold f_X11_undo f_X12_undo
  cases d with
  | zero =>
    have e1 : f_X0_takeBack σ = some (0, σ) := by
      unfold f_X0_takeBack
      rw [r3, if_neg (by decide), ckZ_0]
    rw [e1, cl_s, m50, if_pos (by decide), e_no3, cl_s]
    unfold f_X11_undo_j28
    rw [jn_e, if_pos rfl, e_refuse3, cl_s]
    exact ok_ref h
  | succ j =>
    obtain ⟨σ', a1, a2, a3, a4, a5, a6, a7, a8, a9⟩ := c_unmove (by omega) (by omega) r3 r4 o1 o2 o3 ⟨hP.2.1.2.1.1, hP.2.1.2.1.2⟩ ⟨hP.2.1.2.2.1, hP.2.1.2.2.2⟩ (o5 j (by omega)) (o6 j (by omega))
    have hs : SwM (sI (sI τ 86 50 (nI j)) 86 51 (nI (u + 1))) (so (j + 1)) (sn (j + 1)) (sw (j + 1)) := o4
    obtain ⟨τ', b1, b2, b3⟩ := m_unmove hs ⟨hP.2.1.2.1.1, hP.2.1.2.1.2⟩ ⟨hP.2.1.2.2.1, hP.2.1.2.2.2⟩ (o5 j (by omega)) (o6 j (by omega))
    have b4 : ∀ q, q ∉ [86, 104, 105, 106] → τ'.1 q = τ.1 q := fun q hq => by
      simp only [List.mem_cons, List.not_mem_nil, or_false, not_or] at hq
      rw [b3 q (by simp only [List.mem_cons, List.not_mem_nil, or_false, not_or]; exact hq.2), sI_1, if_neg hq.1, sI_1, if_neg hq.1]
    have b5 : τ'.1 86 = upd (upd (τ.1 86) 50 (nI j)) 51 (nI (u + 1)) := b3 86 (by decide)
    have em : ¬ (nI (j + 1) = 0) := nI_ne0 (by omega) (by omega)
    have e2 : (if τ.1 86 50 = 0 then cl (f_X12_no (-3 : Int32) τ) (fun v1 σ2 => some (v1, σ2)) else lt (sI τ 86 50 ((τ.1 86 50) - (1 : Int32))) fun σ3 => lt (sI σ3 86 51 ((σ3.1 86 51) + (1 : Int32))) fun σ4 => ldI σ4 122 30 (σ4.1 86 50) fun v5 => ldI σ4 123 30 (σ4.1 86 50) fun v6 => ldI σ4 124 30 (σ4.1 86 50) fun v7 => cr (f_X12_becomes v5 v6 v7 σ4) fun σ8 => some ((1 : Int32), σ8)) = some (1, τ') := by
      rw [m50, if_neg em, nI_p, lt_e, lt_e]
      have e3 : (sI τ 86 50 (nI j)).1 86 51 + 1 = nI (u + 1) := by
        show τ.1 86 51 + 1 = _
        rw [m51, nI_1]
      rw [e3]
      have e4 : (sI (sI τ 86 50 (nI j)) 86 51 (nI (u + 1))).1 86 50 = nI j := rfl
      rw [e4, ldI_n (by omega) (by omega), ldI_n (by omega) (by omega), ldI_n (by omega) (by omega)]
      show cr (f_X12_becomes (τ.1 122 j) (τ.1 123 j) (τ.1 124 j) _) _ = _
      rw [b1, cr_s]
    rw [e2, a1, cl_s]
    unfold f_X11_undo_j28
    rw [jn_e, if_neg (by decide)]
    refine ⟨1, σ', τ', rfl, rfl, RR_acts (RR_same h) (fun q hq => a7 q (by revert hq; simp only [List.mem_cons, List.not_mem_nil, or_false, not_or]; omega)) a8 a9 (fun q hq => b4 q (by revert hq; simp only [List.mem_cons, List.not_mem_nil, or_false, not_or]; omega)) (fun k h1 h2 => by rw [b5, pk_un h2, pk_un h1]) ?_⟩
    rw [a7 26 (by decide), a7 27 (by decide), a7 28 (by decide), b4 122 (by decide), b4 123 (by decide), b4 124 (by decide), b4 125 (by decide)]
    refine ⟨j, u + 1, ⟨a2, ?_, a3, ?_, by omega⟩, so, sn, sw, ⟨a4, a5, a6⟩, b2, fun k hk => o5 k (by omega), fun k hk => o6 k (by omega)⟩
    · rw [b5]; rfl
    · rw [b5]; rfl
theorem st_redo (n : Nat) {σ τ : Hp} (h : RR n σ τ) : Ok32 n (f_X11_redo σ) (f_X12_redo τ) := by
  obtain ⟨hF, hP, hG, hA, hR⟩ := id h
  obtain ⟨d, u, ⟨r3, m50, r4, m51, hdu⟩, so, sn, sw, ⟨o1, o2, o3⟩, o4, o5, o6⟩ := hA
  unfold f_X11_redo f_X12_redo
  cases u with
  | zero =>
    have e1 : f_X0_repeat σ = some (0, σ) := by
      unfold f_X0_repeat
      rw [r4, if_pos (by decide), ckZ_0]
    rw [e1, cl_s, m51, if_pos (by decide), e_no3, cl_s]
    unfold f_X11_redo_j28
    rw [jn_e, if_pos rfl, e_refuse3, cl_s]
    exact ok_ref h
  | succ j =>
    obtain ⟨σ', a1, a2, a3, a4, a5, a6, a7, a8, a9⟩ := c_remove (by omega) (by omega) r3 r4 o1 o2 o3 ⟨hP.2.1.2.1.1, hP.2.1.2.1.2⟩ ⟨hP.2.1.2.2.1, hP.2.1.2.2.2⟩ (o5 d (by omega)) (o6 d (by omega))
    have hs : SwM τ (so d) (sn d) (sw d) := o4
    obtain ⟨τ1, b1, b2, b3⟩ := m_remove hs ⟨hP.2.1.2.1.1, hP.2.1.2.1.2⟩ ⟨hP.2.1.2.2.1, hP.2.1.2.2.2⟩ (o5 d (by omega)) (o6 d (by omega))
    have em : ¬ (nI (j + 1) = 0) := nI_ne0 (by omega) (by omega)
    have f50 : τ1.1 86 50 = nI d := by rw [b3 86 (by decide)]; exact m50
    have f51 : τ1.1 86 51 = nI (j + 1) := by rw [b3 86 (by decide)]; exact m51
    generalize hτ' : sI (sI τ1 86 50 (nI (d + 1))) 86 51 (nI j) = τ'
    have b4 : ∀ q, q ∉ [86, 104, 105, 106] → τ'.1 q = τ.1 q := fun q hq => by
      simp only [List.mem_cons, List.not_mem_nil, or_false, not_or] at hq
      rw [← hτ', sI_1, if_neg hq.1, sI_1, if_neg hq.1, b3 q (by simp only [List.mem_cons, List.not_mem_nil, or_false, not_or]; exact hq.2)]
    have b5 : τ'.1 86 = upd (upd (τ.1 86) 50 (nI (d + 1))) 51 (nI j) := by
      rw [← hτ', ← b3 86 (by decide)]; rfl
    have b6 : SwM τ' (so (d + 1)) (sn (d + 1)) (sw (d + 1)) := by rw [← hτ']; exact b2
    have e2 : (if τ.1 86 51 = 0 then cl (f_X12_no (-3 : Int32) τ) (fun v1 σ2 => some (v1, σ2)) else ldI τ 122 30 (τ.1 86 50) fun v3 => ldI τ 123 30 (τ.1 86 50) fun v4 => ldI τ 125 30 (τ.1 86 50) fun v5 => cr (f_X12_becomes v3 v4 v5 τ) fun σ6 => lt (sI σ6 86 50 ((σ6.1 86 50) + (1 : Int32))) fun σ7 => lt (sI σ7 86 51 ((σ7.1 86 51) - (1 : Int32))) fun σ8 => some ((1 : Int32), σ8)) = some (1, τ') := by
      rw [m51, if_neg em, m50, ldI_n (by omega) (by omega), ldI_n (by omega) (by omega), ldI_n (by omega) (by omega), b1, cr_s, lt_e, lt_e, f50, nI_1]
      have e4 : (sI τ1 86 50 (nI (d + 1))).1 86 51 = nI (j + 1) := f51
      rw [e4, nI_p, hτ']
    rw [e2, a1, cl_s]
    unfold f_X11_redo_j28
    rw [jn_e, if_neg (by decide)]
    refine ⟨1, σ', τ', rfl, rfl, RR_acts (RR_same h) (fun q hq => a7 q (by revert hq; simp only [List.mem_cons, List.not_mem_nil, or_false, not_or]; omega)) a8 a9 (fun q hq => b4 q (by revert hq; simp only [List.mem_cons, List.not_mem_nil, or_false, not_or]; omega)) (fun k h1 h2 => by rw [b5, pk_un h2, pk_un h1]) ?_⟩
    rw [a7 26 (by decide), a7 27 (by decide), a7 28 (by decide), b4 122 (by decide), b4 123 (by decide), b4 124 (by decide), b4 125 (by decide)]
    refine ⟨d + 1, j, ⟨a2, ?_, a3, ?_, by omega⟩, so, sn, sw, ⟨a4, a5, a6⟩, b6, fun k hk => o5 k (by omega), fun k hk => o6 k (by omega)⟩
    · rw [b5]; rfl
    · rw [b5]; rfl
