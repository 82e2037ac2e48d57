theorem pth_mem {al : Nat → Nat → Bool} {set : Nat} : ∀ l S, Pth al set S l → ∀ j, set.testBit j = (S.testBit j || decide (j ∈ l))
  | [], S, h, j => by
    have e : S = set := h
    rw [e, decide_eq_false (List.not_mem_nil), Bool.or_false]
  | p :: l, S, h, j => by
    rw [pth_mem l _ h.2 j, or_t, Bool.or_assoc]
    congr 1
    by_cases e : j = p
    · rw [decide_eq_true e, Bool.true_or, decide_eq_true (show j ∈ p :: l by rw [e]; exact List.mem_cons_self)]
    · rw [decide_eq_false e, Bool.false_or]
      exact decide_eq_decide.2 ⟨fun h => List.mem_cons_of_mem _ h, fun h => (List.mem_cons.1 h).resolve_left e⟩
theorem gr_uniq {al : Nat → Nat → Bool} {set : Nat} : ∀ l l' S, Gr al set S l → Gr al set S l' → l = l'
  | [], l', S, h, h' => by
    have e : S = set := h
    cases l' with
    | nil => rfl
    | cons q l' =>
      have h1 := h'.1.1.2.1
      have h2 := h'.1.1.2.2.1
      rw [e, h1] at h2; cases h2
  | p :: l, l', S, h, h' => by
    obtain ⟨l2, e1, e2⟩ := gr_step h' h.1.1 ⟨l, gr_pth l _ h.2⟩ h.1.2
    rw [e1, gr_uniq l l2 _ h.2 e2]
theorem ordA_u {al : Nat → Nat → Bool} {set i : Nat} {r r' : Int32} (h : OrdA al set i r) (h' : OrdA al set i r') : r = r' := by
  rcases h with ⟨l, h1, h2⟩ | ⟨h1, h2⟩
  · rcases h' with ⟨l', h1', h2'⟩ | ⟨h1', h2'⟩
    · obtain rfl := gr_uniq l l' 0 h1 h1'
      rcases h2 with ⟨p, a1, a2⟩ | ⟨a1, a2⟩
      · rcases h2' with ⟨p', b1, b2⟩ | ⟨b1, b2⟩
        · rw [a1] at b1
          rw [a2, b2, Option.some.inj b1]
        · rw [List.getElem?_eq_none b1] at a1; cases a1
      · rcases h2' with ⟨p', b1, b2⟩ | ⟨b1, b2⟩
        · rw [List.getElem?_eq_none a1] at b1; cases b1
        · rw [a2, b2]
    · exact absurd ⟨l, gr_pth l 0 h1⟩ h1'
  · rcases h' with ⟨l', h1', h2'⟩ | ⟨h1', h2'⟩
    · exact absurd ⟨l', gr_pth l' 0 h1'⟩ h1
    · rw [h2, h2']
theorem m_last {on set n : Nat} {τ ρ : Hp} {l : List Nat} (hset : set < 256) (hn : n ≤ 6) (hl : l.length = n) (hlp : ∀ p, p ∈ l → p < 8) (hm : ∀ j, set.testBit j = decide (j ∈ l)) (hdis : ∀ k, set.testBit k = true → on.testBit k = false) (hf : FRD τ ρ) (ho : OnR ρ (on ||| set)) (hg : ∀ j p, l[j]? = some p → ρ.1 126 j = nI p) (t3 : Int32 × Hp) (ht : t3.1 = 1) : ∃ ρ', lp (f_X12_findOrder_l176 (nI n) t3) FU ((0 : Int32), ρ) = some (1, ρ') ∧ OnR ρ' on ∧ (∀ j p, l[j]? = some p → ρ'.1 127 j = nI p) ∧ (∀ a, a ≠ 105 → a ≠ 127 → ρ'.1 a = ρ.1 a) := by
  refine lp_h (Q := fun y => ∃ ρ' : Hp, y = some (1, ρ') ∧ OnR ρ' on ∧ (∀ j p, l[j]? = some p → ρ'.1 127 j = nI p) ∧ (∀ a, a ≠ 105 → a ≠ 127 → ρ'.1 a = ρ.1 a)) n (fun i ξ => (∀ a, a ≠ 105 → a ≠ 127 → ξ.1 a = ρ.1 a) ∧ (∀ j p, j < i → l[j]? = some p → ξ.1 127 j = nI p) ∧ ∀ j, ξ.1 105 j = if j ∈ l.take i then 0 else bN (on ||| set) j) ?_ ?_ (by omega) ?_
  · rintro i ξ hi ⟨r1, r2, r3⟩ K
    have hil : i < l.length := by omega
    have hgi : l[i]? = some l[i] := List.getElem?_eq_getElem hil
    have hp8 := hlp _ (List.getElem_mem hil)
    have e126 : ξ.1 126 i = nI l[i] := by rw [r1 126 (by omega) (by omega)]; exact hg i _ hgi
    refine ⟨sI (sI ξ 127 i (nI l[i])) 105 l[i] 0, ⟨fun a h1 h2 => by rw [sI_1, if_neg h1, sI_1, if_neg h2]; exact r1 a h1 h2, fun j p hj hp => ?_, fun j => ?_⟩, ?_⟩
    · show upd (ξ.1 127) i _ j = _
      rw [upd_at]
      by_cases e : j = i
      · subst e
        rw [if_pos rfl]
        rw [hgi] at hp
        rw [Option.some.inj hp]
      · rw [if_neg e]; exact r2 j p (by omega) hp
    · show upd (ξ.1 105) l[i] 0 j = _
      rw [upd_at, List.take_succ_eq_append_getElem hil]
      by_cases e : j = l[i]
      · rw [if_pos e, if_pos (by rw [e]; exact List.mem_append_right _ (List.mem_singleton.2 rfl))]
      · rw [if_neg e, r3 j]
        by_cases e2 : j ∈ l.take i
        · rw [if_pos e2, if_pos (List.mem_append_left _ e2)]
        · rw [if_neg e2, if_neg (fun hh => by
            rcases List.mem_append.1 hh with g | g
            · exact e2 g
            · exact e (List.mem_singleton.1 g))]
    · unfold f_X12_findOrder_l176
      dsimp only
      rw [le_f hi (by omega), ht, z1z, ldI_n (by omega) (by omega), e126, stI_n (by omega) (by omega), ldI_n (by omega) (by omega), show (sI ξ 127 i (nI l[i])).1 126 i = ξ.1 126 i from rfl, e126, stZ_n (by omega) (by omega), lt_e, nI_1]
      rfl
  · rintro ξ ⟨r1, r2, r3⟩ K
    refine ⟨ξ, ?_, fun j => ?_, fun j p hp => r2 j p (by have := (List.getElem?_eq_some_iff.1 hp).1; omega) hp, r1⟩
    · unfold f_X12_findOrder_l176
      dsimp only
      rw [le_t (Nat.le_refl _) (by omega), ht, ckZ_1]
    · rw [r3 j, List.take_of_length_le (by omega)]
      unfold bN
      by_cases e : j ∈ l
      · have h1 : set.testBit j = true := by rw [hm j, decide_eq_true e]
        rw [if_pos e, hdis j h1]; rfl
      · have h1 : set.testBit j = false := by rw [hm j, decide_eq_false e]
        rw [if_neg e, Nat.testBit_or, h1, Bool.or_false]
  · exact ⟨fun _ _ _ => rfl, fun j p hj => absurd hj (by omega), fun j => by rw [List.take_zero, if_neg List.not_mem_nil]; exact ho j⟩
theorem Cc_6 : ∀ P, P ≤ 8 → ∀ r, r ≤ 5 → (P + 1) * (1 + Cc r) + 2 ≤ 1000000000 := by decide +kernel
theorem m_find {mo on w set P : Nat} {σ τ : Hp} (h : RW mo σ τ) (hset : set < 256) (h0 : set ≠ 0) (hon : on < 256) (hn : pcN set 8 ≤ 6) (hP : P ≤ 8) (h11 : (σ.1 1 11).toInt = (P : Int)) (h22 : τ.1 86 22 = nI P) (hdis : ∀ k, set.testBit k = true → on.testBit k = false) (hbon : ∀ j, P ≤ j → on.testBit j = false) (hbset : ∀ j, set.testBit j = true → j < P) (hw : ∀ k, τ.1 106 k = bN w k) (ho : OnR τ on) : ∃ b τ', f_X12_findOrder (nI set) τ = some (oB b, τ') ∧ OnR τ' on ∧ fr [86, 105, 120, 121, 126, 127] τ τ' ∧ (∀ j, j ≠ 43 → j ≠ 44 → j ≠ 45 → τ'.1 86 j = τ.1 86 j) ∧ (b = true → ∃ l, Gr (okF σ on w) set 0 l ∧ ∀ j p, l[j]? = some p → τ'.1 127 j = nI p) ∧ (b = false → ¬ can (okF σ on w) set 0) := by
  have hpc16 : pcN set 16 = pcN set 8 := pc_st 16 (by omega) (fun j hj => tb_big (b := 8) (by omega) hj)
  have h0s : sub 0 set := fun k hk => by rw [Nat.zero_testBit] at hk; cases hk
  have hn1 : 1 ≤ pcN set 8 := by
    apply Nat.lt_of_not_le
    intro hh
    exact h0 (pc_full hset h0s (by omega)).symm
  generalize hnn : pcN set 8 = n at hn hn1 hpc16
  unfold f_X12_findOrder
  rw [m_bits (by omega), hpc16, cr_s, show (0 : Int32) = nI 0 from rfl, stI_n (by omega) (by omega), jn_e]
  have hD : DSt τ (sI τ 126 0 (-1)) on 0 0 0 := ⟨FRD_s (FRD_0 τ) 126 0 (Or.inr rfl) _, by show upd (τ.1 126) 0 _ 0 = _; exact pk_us, by unfold onG; rw [if_pos rfl, Nat.or_zero]; exact ho, fun hne => absurd rfl hne⟩
  have hdfs := m_dfs h hset hon hn hnn.symm hP h11 h22 hdis hbon hbset hw (f_X12_findOrder_j173 (nI n)) (n - 1) 0 0 (by omega) h0s rfl P 0 (sI τ 126 0 (-1)) (by omega) hD
  have hcc := Cc_6 P hP (n - 1) (by omega)
  rcases hdfs with ⟨l, ρ', ⟨N, r1, r2⟩, c2, c3, c4, c5, p', l', c6, c7, c8, c9, c10⟩ | ⟨ρ', ⟨N, r1, r2⟩, c2, c3, c4, c5⟩
  · have hgr : Gr (okF σ on w) set 0 l := by
      rw [c6]
      exact ⟨⟨c8, fun q hq hc => c9 q (Nat.zero_le _) hq hc⟩, c10⟩
    have hpth := gr_pth l 0 hgr
    have hlen := pth_len hset l 0 h0s hpth
    have hz : pcN 0 8 = 0 := rfl
    have hmem := pth_mem l 0 hpth
    have hm : ∀ j, set.testBit j = decide (j ∈ l) := fun j => by rw [hmem j, Nat.zero_testBit, Bool.false_or]
    have hlp : ∀ p, p ∈ l → p < 8 := fun p hp => by
      have h1 : set.testBit p = true := by rw [hm p, decide_eq_true hp]
      have := hbset p h1
      omega
    obtain ⟨ρ2, k1, k2, k3, k4⟩ := m_last (τ := τ) (l := l) hset hn (by omega) hlp hm hdis c2 c3 (fun j p hj => by have := c5 j p hj; rw [Nat.zero_add] at this; exact this) ((1 : Int32), ρ') rfl
    refine ⟨true, ρ2, ?_, k2, fun a ha => ?_, fun j j1 j2 j3 => ?_, fun _ => ⟨l, hgr, k3⟩, fun e => by cases e⟩
    · have e1 : FU = (FU - N - 1 + 1) + N := by rw [FU_e]; omega
      have r3 := r2 (FU - N - 1 + 1)
      rw [← e1, lp_succ] at r3
      rw [show ((nI 0 : Int32), (nI 0 : Int32), sI τ 126 0 (-1)) = (nI 0, 0, sI τ 126 0 (-1)) from rfl, r3]
      generalize lp (f_X12_findOrder_l17 (nI set) (nI n) (f_X12_findOrder_j173 (nI n))) (FU - N - 1) = K
      unfold f_X12_findOrder_l17
      dsimp only
      rw [if_neg (nI_pos (by omega)), if_neg (by decide)]
      unfold f_X12_findOrder_j173
      exact k1
    · simp only [List.mem_cons, List.not_mem_nil, or_false, not_or] at ha
      rw [k4 a ha.2.1 ha.2.2.2.2.2]
      exact c2.1 a (by simp only [List.mem_cons, List.not_mem_nil, or_false, not_or]; exact ⟨ha.1, ha.2.1, ha.2.2.1, ha.2.2.2.1, ha.2.2.2.2.1⟩)
    · rw [k4 86 (by omega) (by omega)]
      exact c2.2 j j1 j2 j3
  · refine ⟨false, ρ', ?_, by rw [Nat.or_zero] at c3; exact c3, fun a ha => ?_, c2.2, fun e => (by cases e), fun _ hcan => ?_⟩
    · have e1 : FU = (FU - N - 1 + 1) + N := by rw [FU_e]; omega
      have r3 := r2 (FU - N - 1 + 1)
      rw [← e1, lp_succ] at r3
      rw [show ((nI 0 : Int32), (nI 0 : Int32), sI τ 126 0 (-1)) = (nI 0, 0, sI τ 126 0 (-1)) from rfl, r3]
      generalize lp (f_X12_findOrder_l17 (nI set) (nI n) (f_X12_findOrder_j173 (nI n))) (FU - N - 1) = K
      unfold f_X12_findOrder_l17
      dsimp only
      rw [if_pos (by decide)]
      unfold f_X12_findOrder_j173
      obtain ⟨M, hM, hl⟩ := lp_FU
      rw [hl]
      generalize lp (f_X12_findOrder_l176 (nI n) (0, ρ')) M = K2
      unfold f_X12_findOrder_l176
      dsimp only
      rw [show ∀ y z : Option (Int32 × Hp), (if nI n ≤ (0 : Int32) then y else z) = z from fun y z => le_f (b := 0) (by omega) (by omega), if_pos rfl]
      rfl
    · simp only [List.mem_cons, List.not_mem_nil, or_false, not_or] at ha
      exact c2.1 a (by simp only [List.mem_cons, List.not_mem_nil, or_false, not_or]; exact ⟨ha.1, ha.2.1, ha.2.2.1, ha.2.2.2.1, ha.2.2.2.2.1⟩)
    · rcases can_inv hcan with g1 | ⟨q, g1, g2⟩
      · exact h0 g1.symm
      · exact c5 q (Nat.zero_le _) g1 g2
