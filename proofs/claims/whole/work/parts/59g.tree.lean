/-! ===== the model's reading follows the text's tree ===== -/
def ND (t : Nat → Int32) (L q : Nat) : Prop := ¬ (48 ≤ (tx t L q).toInt ∧ (tx t L q).toInt ≤ 57)
def hdw (k : Nat) (w : List Nat) : Prop := ∀ c l, w = c :: l → k < c
def Cl (mo : Nat) (σ ρ0 : Hp) (r L k : Nat) (g : Nat → Nat × Option (List Int32)) : Prop := ∀ p q s, g p = (q, some s) → p < q ∧ q ≤ L ∧ ∃ v, Push (evC mo σ) s v ∧ (ND (txt ρ0 r) L q → ∀ Q w V, hdw k w → (∀ w' V', wk k w' V' = (w, v :: V) → BQ ρ0 r Q q w' V') → AQ ρ0 r Q p w V)
def PCl (mo : Nat) (σ ρ0 : Hp) (r L : Nat) (g : Nat → Nat × Option (List Int32)) : Prop := ∀ p q s, g p = (q, some s) → p < q ∧ q ≤ L ∧ ∃ v, Push (evC mo σ) s v ∧ (ND (txt ρ0 r) L q → ∀ Q w V, BQ ρ0 r Q q (wk 0 w (v :: V)).1 (wk 0 w (v :: V)).2 → AQ ρ0 r Q p w V)
theorem Cl_P {mo : Nat} {σ ρ0 : Hp} {r L : Nat} {g : Nat → Nat × Option (List Int32)} (h : PCl mo σ ρ0 r L g) : Cl mo σ ρ0 r L 0 g := by
  intro p q s hg
  obtain ⟨h1, h2, v, h3, h4⟩ := h p q s hg
  refine ⟨h1, h2, v, h3, fun hq Q w V hw hB => h4 hq Q w V (hB _ _ ?_)⟩
  rw [wk_wk (Nat.le_refl 0), wk_hd _ hw]
theorem hdw_le {k k' : Nat} {w : List Nat} (h : hdw k w) (hk : k' ≤ k) : hdw k' w := fun c l e => Nat.lt_of_le_of_lt hk (h c l e)
theorem loop_Cl {mo : Nat} {σ ρ0 : Hp} {r L k k' : Nat} (hr : r < 16) (hL : ρ0.1 117 r = nI L) (hL40 : L ≤ 40) {op code : Int32} {g : Nat → Nat × Option (List Int32)} (hk : k = k' + 1) (hop : (op = 38 ∧ k = 1) ∨ (op = 124 ∧ k = 2)) (hp : ∀ s s' v v', Push (evC mo σ) s v → Push (evC mo σ) s' v' → Push (evC mo σ) (s ++ s' ++ [code]) (if k = 1 then v && v' else v || v')) (hg : Cl mo σ ρ0 r L k' g) : ∀ kk p acc va q s, Push (evC mo σ) acc va → sLoop (txt ρ0 r) L op code g kk p acc = (q, some s) → p ≤ L → p ≤ q ∧ q ≤ L ∧ ∃ v, Push (evC mo σ) s v ∧ (ND (txt ρ0 r) L q → ND (txt ρ0 r) L p ∧ ∀ Q w V, hdw k w → (∀ w' V', wk k w' V' = (w, v :: V) → BQ ρ0 r Q q w' V') → ∀ w' V', wk k w' V' = (w, va :: V) → BQ ρ0 r Q p w' V') := by
  intro kk
  induction kk with
  | zero =>
    intro p acc va q s ha h hpL
    unfold sLoop at h
    obtain ⟨h1, h2⟩ := Prod.mk.inj h
    subst h1
    refine ⟨Nat.le_refl _, hpL, va, Option.some.inj h2 ▸ ha, fun hq => ⟨hq, fun Q w V _ hB => hB⟩⟩
  | succ kk ih =>
    intro p acc va q s ha h hpL
    unfold sLoop at h
    by_cases e : tx (txt ρ0 r) L p = op
    · rw [if_pos e] at h
      obtain ⟨q1, s1, g1, g2⟩ := then_some h
      obtain ⟨c1, c2, v1, c3, c4⟩ := hg _ _ _ g1
      obtain ⟨i1, i2, v, i3, i4⟩ := ih q1 _ _ q s (hp _ _ _ _ ha c3) g2 c2
      refine ⟨by omega, i2, v, i3, fun hq => ?_⟩
      obtain ⟨j1, j2⟩ := i4 hq
      refine ⟨?_, fun Q w V hw hB w' V' he => ?_⟩
      · intro hd
        rw [e] at hd
        rcases hop with ⟨h1, -⟩ | ⟨h1, -⟩ <;> rw [h1] at hd <;> revert hd <;> decide
      · refine sB_op hr hL hL40 (by omega) (k := k) ?_ he ?_
        · rcases hop with ⟨h1, h2⟩ | ⟨h1, h2⟩
          · exact Or.inl ⟨by rw [e, h1], h2⟩
          · exact Or.inr ⟨by rw [e, h1], h2⟩
        · refine c4 j1 Q (k :: w) (va :: V) (fun c l ec => ?_) (fun w'' V'' he2 => ?_)
          · have := (List.cons.inj ec).1
            omega
          · refine j2 Q w V hw hB w'' V'' ?_
            rw [← wk_wk (show k' ≤ k by omega), he2]
            dsimp only
            rw [wk_1 (Nat.le_refl k) (by omega), wk_hd _ hw]
    · rw [if_neg e] at h
      obtain ⟨h1, h2⟩ := Prod.mk.inj h
      subst h1
      refine ⟨Nat.le_refl _, hpL, va, Option.some.inj h2 ▸ ha, fun hq => ⟨hq, fun Q w V _ hB => hB⟩⟩
theorem seq_Cl {mo : Nat} {σ ρ0 : Hp} {r L k k' : Nat} (hr : r < 16) (hL : ρ0.1 117 r = nI L) (hL40 : L ≤ 40) {op code : Int32} {g : Nat → Nat × Option (List Int32)} (hk : k = k' + 1) (hop : (op = 38 ∧ k = 1) ∨ (op = 124 ∧ k = 2)) (hp : ∀ s s' v v', Push (evC mo σ) s v → Push (evC mo σ) s' v' → Push (evC mo σ) (s ++ s' ++ [code]) (if k = 1 then v && v' else v || v')) (hg : Cl mo σ ρ0 r L k' g) : Cl mo σ ρ0 r L k (sSeq (txt ρ0 r) L op code g) := by
  intro p q s h
  unfold sSeq at h
  obtain ⟨q1, s1, g1, g2⟩ := then_some h
  obtain ⟨c1, c2, v1, c3, c4⟩ := hg _ _ _ g1
  obtain ⟨i1, i2, v, i3, i4⟩ := loop_Cl hr hL hL40 hk hop hp hg 40 q1 s1 v1 q s c3 g2 c2
  refine ⟨by omega, i2, v, i3, fun hq Q w V hw hB => ?_⟩
  obtain ⟨j1, j2⟩ := i4 hq
  refine c4 j1 Q w V (hdw_le hw (by omega)) (fun w' V' he => j2 Q w V hw hB w' V' ?_)
  rw [← wk_wk (show k' ≤ k by omega), he]
  exact wk_hd _ hw
theorem part_P {mo : Nat} {σ ρ0 : Hp} (hR : RW mo σ ρ0) {r L : Nat} (hr : r < 16) (hL : ρ0.1 117 r = nI L) (hL40 : L ≤ 40) {d : Nat} {g0 g2 : Nat → Nat × Option (List Int32)} (h0 : Cl mo σ ρ0 r L 2 g0) (h2 : PCl mo σ ρ0 r L g2) : PCl mo σ ρ0 r L (fun p => if tx (txt ρ0 r) L p = 33 then (if d < 4 then sThen (g2 (p + 1)) (fun q s => (q, some (s ++ [0]))) else (p, none))
    else if tx (txt ρ0 r) L p = 40 then (if d < 4 then sThen (g0 (p + 1)) (fun q s => if tx (txt ρ0 r) L q = 41 then (q + 1, some s) else (q, none)) else (p, none))
    else sCmp (txt ρ0 r) L p) := by
  intro p q s h
  dsimp only at h
  by_cases e1 : tx (txt ρ0 r) L p = 33
  · rw [if_pos e1] at h
    by_cases hd : d < 4
    · rw [if_pos hd] at h
      obtain ⟨q1, s1, g1, g3⟩ := then_some h
      obtain ⟨c1, c2, v1, c3, c4⟩ := h2 _ _ _ g1
      obtain ⟨k1, k2⟩ := Prod.mk.inj g3
      subst k1
      rw [← Option.some.inj k2]
      refine ⟨by omega, c2, !v1, push_not c3, fun hq Q w V hB => ?_⟩
      refine sA_open hr hL hL40 (Or.inl ⟨e1, rfl⟩) (c4 hq Q (0 :: w) V ?_)
      rw [wk_0]
      exact hB
    · rw [if_neg hd] at h; exact (no_pn h).elim
  rw [if_neg e1] at h
  by_cases e2 : tx (txt ρ0 r) L p = 40
  · rw [if_pos e2] at h
    by_cases hd : d < 4
    · rw [if_pos hd] at h
      obtain ⟨q1, s1, g1, g3⟩ := then_some h
      obtain ⟨c1, c2, v1, c3, c4⟩ := h0 _ _ _ g1
      by_cases e3 : tx (txt ρ0 r) L q1 = 41
      · rw [if_pos e3] at g3
        obtain ⟨k1, k2⟩ := Prod.mk.inj g3
        subst k1
        rw [← Option.some.inj k2]
        have hq1 : q1 < L := tx_lt (fun e => by rw [e] at e3; exact absurd e3 (by decide))
        refine ⟨by omega, hq1, v1, c3, fun hq Q w V hB => ?_⟩
        refine sA_open hr hL hL40 (Or.inr ⟨e2, rfl⟩) (c4 (fun hh => by rw [e3] at hh; revert hh; decide) Q (9 :: w) V (fun c l ec => ?_) (fun w' V' he => ?_))
        · have := (List.cons.inj ec).1
          omega
        · exact sB_close hr hL hL40 e3 he hB
      · rw [if_neg e3] at g3; exact (no_pn g3).elim
    · rw [if_neg hd] at h; exact (no_pn h).elim
  rw [if_neg e2] at h
  obtain ⟨g1, g2, c, g3, g4, -⟩ := m_cmp (ρ := sI ρ0 86 43 (nI p)) (RW_rd hR _) hr (show (sI ρ0 86 43 (nI p)).1 117 r = nI L from hL) hL40 rfl h
  refine ⟨g1, g2, evC mo σ c, g3 ▸ push_cmp g4, fun hq Q w V hB => ?_⟩
  exact sA_cmp hR hr hL hL40 e1 e2 h hq g3 hB
theorem tree_all {mo : Nat} {σ ρ0 : Hp} (hR : RW mo σ ρ0) {r L : Nat} (hr : r < 16) (hL : ρ0.1 117 r = nI L) (hL40 : L ≤ 40) : ∀ m, (∀ d, Cl mo σ ρ0 r L 2 (sT (txt ρ0 r) L m 0 d)) ∧ (∀ d, Cl mo σ ρ0 r L 1 (sT (txt ρ0 r) L m 1 d)) ∧ ∀ d, PCl mo σ ρ0 r L (sT (txt ρ0 r) L m 2 d)
  | 0 => ⟨fun d p q s h => (no_pn h).elim, fun d p q s h => (no_pn h).elim, fun d p q s h => (no_pn h).elim⟩
  | m + 1 => by
    obtain ⟨h0, h1, h2⟩ := tree_all hR hr hL hL40 m
    refine ⟨fun d => ?_, fun d => ?_, fun d => ?_⟩
    · exact seq_Cl (k' := 1) hr hL hL40 rfl (Or.inr ⟨rfl, rfl⟩) (fun s s' v v' => push_or) (h1 d)
    · exact seq_Cl (k' := 0) hr hL hL40 rfl (Or.inl ⟨rfl, rfl⟩) (fun s s' v v' => push_and) (Cl_P (h2 d))
    · exact part_P hR hr hL hL40 (h0 (d + 1)) (h2 (d + 1))
theorem lp_FU : ∃ M, 1000 ≤ M ∧ ∀ {α β : Type} (F : (β → Option α) → β → Option α) (s : β), lp F FU s = F (lp F M) s := ⟨1099511627775, by omega, fun F s => rfl⟩
theorem m_holdsR {mo : Nat} {σ ρ : Hp} (hR : RW mo σ ρ) {r L : Nat} {S : List Int32} {b : Bool} (hr : r < 16) (hL : ρ.1 117 r = nI L) (hL40 : L ≤ 40) (hs : sT (txt ρ r) L 24 0 0 3 = (L, some S)) (hb : Push (evC mo σ) S b) : Qd ρ b (f_X12_holdsRule (nI r) ρ) := by
  obtain ⟨h1, h2, v, h3, h4⟩ := (tree_all hR hr hL hL40 24).1 0 3 L S hs
  have hv : v = b := by
    have := (push_run h3).symm.trans (push_run hb)
    exact (List.cons.inj (Option.some.inj this)).1
  subst hv
  have hA := h4 (fun hh => by unfold tx at hh; rw [if_neg (by omega)] at hh; revert hh; decide) (Qd ρ v) [] [] (fun c l e => by cases e) (fun w' V' he => sB_end hr hL hL40 he)
  have hP : Pic ρ (sI (sI (sI ρ 86 43 3) 86 44 0) 86 45 0) 3 [] [] := by
    refine ⟨⟨rfl, rfl, rfl⟩, ⟨trivial, trivial⟩, fr_s (by decide) (fr_s (by decide) (fr_s (by decide) (fr_0 _ _))), fun j j1 j2 j3 => ?_⟩
    show upd (upd (upd (ρ.1 86) 43 3) 44 0) 45 0 j = _
    rw [upd_at, if_neg j3, upd_at, if_neg j2, upd_at, if_neg j1]
  obtain ⟨M, hM, hl⟩ := lp_FU
  unfold f_X12_holdsRule
  rw [lt_e, lt_e, lt_e, jn_e, hl]
  have e := F15_go hP hr hL hL40 h1 (lp (F15 r) M)
  unfold F15 at e
  rw [e]
  exact hA (by rw [List.length_nil]; omega) (by rw [List.length_nil]; omega) rfl _ M FU hP (by omega) (by rw [FU_e]; omega)
