/-! ===== the model's reading of a rule: its two stacks ===== -/
def StW (f : Nat → Int32) : List Nat → Prop
  | [] => True
  | x :: l => f l.length = nI x ∧ x ≤ 9 ∧ StW f l
def StV (f : Nat → Int32) : List Bool → Prop
  | [] => True
  | x :: l => f l.length = oB x ∧ StV f l
theorem StW_up {f : Nat → Int32} {v : Int32} {j : Nat} : ∀ l, l.length ≤ j → StW f l → StW (upd f j v) l
  | [], _, _ => trivial
  | x :: l, hj, h => by
    rw [List.length_cons] at hj
    exact ⟨by rw [upd_at, if_neg (by omega)]; exact h.1, h.2.1, StW_up l (by omega) h.2.2⟩
theorem StV_up {f : Nat → Int32} {v : Int32} {j : Nat} : ∀ l, l.length ≤ j → StV f l → StV (upd f j v) l
  | [], _, _ => trivial
  | x :: l, hj, h => by
    rw [List.length_cons] at hj
    exact ⟨by rw [upd_at, if_neg (by omega)]; exact h.1, StV_up l (by omega) h.2⟩
/-- how many join two -/
def nb : List Nat → Nat
  | [] => 0
  | c :: w => (if c = 1 ∨ c = 2 then 1 else 0) + nb w
/-- what waits is done, as far as it binds that much -/
def wk (m : Nat) : List Nat → List Bool → List Nat × List Bool
  | [], V => ([], V)
  | c :: w, V => if c ≤ m then (match V with
      | [] => (c :: w, [])
      | b :: V' => if c = 0 then wk m w ((!b) :: V') else (match V' with
        | [] => (c :: w, [b])
        | a :: V'' => wk m w ((if c = 1 then a && b else a || b) :: V''))) else (c :: w, V)
/-- the model's heap, while it reads: place, what waits, the truths -/
def Pic (ρ0 ρ : Hp) (p : Nat) (w : List Nat) (V : List Bool) : Prop :=
  (ρ.1 86 43 = nI p ∧ ρ.1 86 44 = nI w.length ∧ ρ.1 86 45 = nI V.length) ∧ (StW (ρ.1 120) w ∧ StV (ρ.1 121) V) ∧ fr [86, 120, 121] ρ0 ρ ∧ ∀ j, j ≠ 43 → j ≠ 44 → j ≠ 45 → ρ.1 86 j = ρ0.1 86 j
theorem Pic_at {ρ0 ρ : Hp} {p : Nat} {w : List Nat} {V : List Bool} (h : Pic ρ0 ρ p w V) (j : Nat) (hj : j = 43 ∨ j = 44 ∨ j = 45) (v : Int32) : fr [86, 120, 121] ρ0 (sI ρ 86 j v) ∧ ∀ i, i ≠ 43 → i ≠ 44 → i ≠ 45 → (sI ρ 86 j v).1 86 i = ρ0.1 86 i := by
  refine ⟨fr_s (by decide) h.2.2.1, fun i h1 h2 h3 => ?_⟩
  show upd (ρ.1 86) j v i = _
  rw [upd_at, if_neg (by omega)]
  exact h.2.2.2 i h1 h2 h3
theorem Pic_p {ρ0 ρ : Hp} {p q : Nat} {w : List Nat} {V : List Bool} (h : Pic ρ0 ρ p w V) : Pic ρ0 (sI ρ 86 43 (nI q)) q w V := by
  obtain ⟨g1, g2⟩ := Pic_at h 43 (by omega) (nI q)
  exact ⟨⟨rfl, h.1.2.1, h.1.2.2⟩, h.2.1, g1, g2⟩
theorem Pic_w {ρ0 ρ : Hp} {p : Nat} {c : Nat} {w : List Nat} {V : List Bool} (h : Pic ρ0 ρ p (c :: w) V) : Pic ρ0 (sI ρ 86 44 (nI w.length)) p w V := by
  obtain ⟨g1, g2⟩ := Pic_at h 44 (by omega) (nI w.length)
  exact ⟨⟨h.1.1, rfl, h.1.2.2⟩, ⟨h.2.1.1.2.2, h.2.1.2⟩, g1, g2⟩
theorem Pic_v {ρ0 ρ : Hp} {p : Nat} {c : Bool} {w : List Nat} {V : List Bool} (h : Pic ρ0 ρ p w (c :: V)) : Pic ρ0 (sI ρ 86 45 (nI V.length)) p w V := by
  obtain ⟨g1, g2⟩ := Pic_at h 45 (by omega) (nI V.length)
  exact ⟨⟨h.1.1, h.1.2.1, rfl⟩, ⟨h.2.1.1, h.2.1.2.2⟩, g1, g2⟩
theorem Pic_pushW {ρ0 ρ : Hp} {p c : Nat} {w : List Nat} {V : List Bool} (hc : c ≤ 9) (h : Pic ρ0 ρ p w V) : Pic ρ0 (sI (sI ρ 120 w.length (nI c)) 86 44 (nI (w.length + 1))) p (c :: w) V := by
  refine ⟨⟨h.1.1, rfl, h.1.2.2⟩, ⟨⟨?_, hc, ?_⟩, h.2.1.2⟩, fr_s (by decide) (fr_s (by decide) h.2.2.1), fun i h1 h2 h3 => ?_⟩
  · show upd (ρ.1 120) w.length (nI c) w.length = _
    exact pk_us
  · exact StW_up w (Nat.le_refl _) h.2.1.1
  · show upd (ρ.1 86) 44 _ i = _
    rw [upd_at, if_neg (by omega)]
    exact h.2.2.2 i h1 h2 h3
theorem Pic_pushV {ρ0 ρ : Hp} {p : Nat} {b : Bool} {w : List Nat} {V : List Bool} (h : Pic ρ0 ρ p w V) : Pic ρ0 (sI (sI ρ 121 V.length (oB b)) 86 45 (nI (V.length + 1))) p w (b :: V) := by
  refine ⟨⟨h.1.1, h.1.2.1, rfl⟩, ⟨h.2.1.1, ?_, ?_⟩, fr_s (by decide) (fr_s (by decide) h.2.2.1), fun i h1 h2 h3 => ?_⟩
  · show upd (ρ.1 121) V.length (oB b) V.length = _
    exact pk_us
  · exact StV_up V (Nat.le_refl _) h.2.1.2
  · show upd (ρ.1 86) 45 _ i = _
    rw [upd_at, if_neg (by omega)]
    exact h.2.2.2 i h1 h2 h3
/-- the uppermost truth becomes another -/
theorem Pic_top {ρ0 ρ : Hp} {p : Nat} {b c : Bool} {w : List Nat} {V : List Bool} (h : Pic ρ0 ρ p w (c :: V)) : Pic ρ0 (sI ρ 121 V.length (oB b)) p w (b :: V) := by
  refine ⟨h.1, ⟨h.2.1.1, ?_, ?_⟩, fr_s (by decide) h.2.2.1, h.2.2.2⟩
  · show upd (ρ.1 121) V.length (oB b) V.length = _
    exact pk_us
  · exact StV_up V (Nat.le_refl _) h.2.1.2.2
/-- one that binds so much is done -/
theorem wk_1 {m c : Nat} {w : List Nat} {a b : Bool} {V : List Bool} (h : c ≤ m) (h0 : c ≠ 0) : wk m (c :: w) (b :: a :: V) = wk m w ((if c = 1 then a && b else a || b) :: V) := by
  conv => lhs; unfold wk
  rw [if_pos h]
  dsimp only
  rw [if_neg h0]
theorem wk_0 {m : Nat} {w : List Nat} {b : Bool} {V : List Bool} : wk m (0 :: w) (b :: V) = wk m w ((!b) :: V) := by
  conv => lhs; unfold wk
  rw [if_pos (Nat.zero_le _)]
  dsimp only
  rw [if_pos rfl]
theorem wk_n {m c : Nat} {w : List Nat} {V : List Bool} (h : ¬ c ≤ m) : wk m (c :: w) V = (c :: w, V) := by
  conv => lhs; unfold wk
  rw [if_neg h]
theorem oB_not (b : Bool) : (1 : Int32) - oB b = oB (!b) := by cases b <;> rfl
theorem oB_and (a b : Bool) : oB a &&& oB b = oB (a && b) := by cases a <;> cases b <;> rfl
theorem oB_or (a b : Bool) : oB a ||| oB b = oB (a || b) := by cases a <;> cases b <;> rfl
theorem nI_s1 {n : Nat} : nI (n + 1) - 1 = nI n := nI_pred n
theorem m_works {ρ0 : Hp} {p m : Nat} (hm : m ≤ 2) : ∀ (w : List Nat) (V : List Bool) (ρ : Hp) (k : Nat), w.length < k → w.length ≤ 40 → V.length ≤ 40 → nb w + 1 ≤ V.length → Pic ρ0 ρ p w V → ∃ ρ', lp (f_X12_works_l0 (nI m)) k ρ = some ρ' ∧ Pic ρ0 ρ' p (wk m w V).1 (wk m w V).2
  | [], V, ρ, k + 1, _, _, _, _, h => by
    refine ⟨ρ, ?_, h⟩
    rw [lp_succ]
    unfold f_X12_works_l0
    rw [h.1.2.1, show ((0 : Int32)) = nI 0 from rfl, le_t (by rw [List.length_nil]; omega) (by omega)]
  | c :: w, V, ρ, k + 1, hk, hw, hV, hn, h => by
    obtain ⟨⟨h1, h2, h3⟩, ⟨⟨h4, h5, h6⟩, h7⟩, h8, h9⟩ := id h
    rw [List.length_cons] at hk hw h2
    rw [lp_succ]
    unfold f_X12_works_l0
    rw [h2, show ∀ y z : Option Hp, (if nI (w.length + 1) ≤ (0 : Int32) then y else z) = z from fun y z => le_f (b := 0) (by omega) (by omega), nI_s1, ldI_n (by omega) (by omega), h4]
    by_cases e : c ≤ m
    · rw [if_neg (fun g => by rw [nI_ltI (by omega) (by omega)] at g; omega)]
      have hP := Pic_w h
      have e4 : (sI ρ 86 44 (nI w.length)).1 120 w.length = nI c := h4
      match V, hV, hn, h, h3, h7, hP with
      | [], hV, hn, h, h3, h7, hP => exact absurd hn (by rw [List.length_nil]; omega)
      | b :: V', hV, hn, h, h3, h7, hP =>
      have e3 : (sI ρ 86 44 (nI w.length)).1 86 45 = nI (V'.length + 1) := h3
      have eV : (sI ρ 86 44 (nI w.length)).1 121 V'.length = oB b := h7.1
      rw [List.length_cons] at hV hn
      rw [lt_e, show (sI ρ 86 44 (nI w.length)).1 86 44 = nI w.length from rfl, ldI_n (by omega) (by omega), jn_e, e4, e3, nI_s1]
      unfold nb at hn
      by_cases c0 : c = 0
      · subst c0
        rw [show nI 0 = 0 from rfl, z0z, ldI_n (by omega) (by omega), stI_n (by omega) (by omega), eV, oB_not, wk_0]
        unfold f_X12_works_j144
        rw [if_neg (by omega)] at hn
        exact m_works hm w ((!b) :: V') _ k (by omega) (by omega) (by rw [List.length_cons]; omega) (by rw [List.length_cons]; omega) (Pic_top hP)
      · rw [if_neg (nI_ne0 (by omega) (by omega))]
        rw [if_pos (by omega)] at hn
        match V', hV, hn, h, h3, h7, hP, e3, eV with
        | [], hV, hn, h, h3, h7, hP, e3, eV => exact absurd hn (by rw [List.length_nil]; omega)
        | a :: V'', hV, hn, h, h3, h7, hP, e3, eV =>
        rw [List.length_cons] at hV hn
        have hP2 := Pic_v hP
        rw [List.length_cons] at hP2 ⊢
        have e5 : (sI (sI ρ 86 44 (nI w.length)) 86 45 (nI (V''.length + 1))).1 86 45 = nI (V''.length + 1) := rfl
        have eA : (sI (sI ρ 86 44 (nI w.length)) 86 45 (nI (V''.length + 1))).1 121 V''.length = oB a := h7.2.1
        have eB : (sI (sI ρ 86 44 (nI w.length)) 86 45 (nI (V''.length + 1))).1 121 (V''.length + 1) = oB b := h7.1
        have hrec := m_works hm w ((if c = 1 then a && b else a || b) :: V'') _ k (by omega) (by omega) (by rw [List.length_cons]; omega) (by rw [List.length_cons]; omega) (Pic_top (b := if c = 1 then a && b else a || b) hP2)
        rw [wk_1 e c0, lt_e, jn_e, e5, nI_s1, ldI_n (by omega) (by omega), ldI_n (by omega) (by omega), ldI_n (by omega) (by omega), ldI_n (by omega) (by omega), eA, eB, oB_and, oB_or]
        unfold f_X12_works_j143 f_X12_works_j144
        rw [e5, nI_s1, stI_n (by omega) (by omega), stI_n (by omega) (by omega)]
        by_cases c1 : c = 1
        · rw [if_pos c1] at hrec ⊢
          rw [if_pos (show nI c = 1 by rw [c1]; rfl)]
          exact hrec
        · rw [if_neg c1] at hrec ⊢
          rw [if_neg (show ¬ nI c = (1 : Int32) from fun g => c1 ((nI_eq (b := 1) (by omega) (by omega)).1 g))]
          exact hrec
    · rw [wk_n e, if_pos ((nI_ltI (by omega) (by omega)).2 (by omega))]
      exact ⟨ρ, rfl, h⟩
theorem wk_hd {m : Nat} {w : List Nat} (V : List Bool) (h : ∀ c l, w = c :: l → m < c) : wk m w V = (w, V) := by
  match w, h with
  | [], h => rfl
  | c :: l, h => unfold wk; rw [if_neg (by have := h c l rfl; omega)]
theorem wk_wk {m m' : Nat} (hm : m ≤ m') : ∀ (w : List Nat) (V : List Bool), wk m' (wk m w V).1 (wk m w V).2 = wk m' w V
  | [], V => rfl
  | c :: w, V => by
    by_cases e : c ≤ m
    · match V with
      | [] =>
        have e1 : wk m (c :: w) [] = (c :: w, []) := by unfold wk; rw [if_pos e]
        rw [e1]
      | b :: V' =>
        by_cases c0 : c = 0
        · have e1 : ∀ k, c ≤ k → wk k (c :: w) (b :: V') = wk k w ((!b) :: V') := fun k hk => by
            conv => lhs; unfold wk
            rw [if_pos hk]
            dsimp only
            rw [if_pos c0]
          rw [e1 m e, e1 m' (by omega)]
          exact wk_wk hm w _
        · match V' with
          | [] =>
            have e1 : wk m (c :: w) [b] = (c :: w, [b]) := by
              unfold wk
              rw [if_pos e]
              dsimp only
              rw [if_neg c0]
            rw [e1]
          | a :: V'' =>
            have e1 : ∀ k, c ≤ k → wk k (c :: w) (b :: a :: V'') = wk k w ((if c = 1 then a && b else a || b) :: V'') := fun k hk => by
              conv => lhs; unfold wk
              rw [if_pos hk]
              dsimp only
              rw [if_neg c0]
            rw [e1 m e, e1 m' (by omega)]
            exact wk_wk hm w _
    · have e1 : wk m (c :: w) V = (c :: w, V) := by unfold wk; rw [if_neg e]
      rw [e1]
theorem wk_len {m : Nat} (hm : m ≤ 2) : ∀ (w : List Nat) (V : List Bool), (wk m w V).1.length ≤ w.length ∧ (wk m w V).2.length ≤ V.length ∧ (V.length = nb w + 1 → (wk m w V).2.length = nb (wk m w V).1 + 1)
  | [], V => ⟨Nat.le_refl _, Nat.le_refl _, id⟩
  | c :: w, V => by
    by_cases e : c ≤ m
    · match V with
      | [] =>
        have e1 : wk m (c :: w) [] = (c :: w, []) := by unfold wk; rw [if_pos e]
        rw [e1]; exact ⟨Nat.le_refl _, Nat.le_refl _, id⟩
      | b :: V' =>
        by_cases c0 : c = 0
        · subst c0
          rw [wk_0]
          obtain ⟨i1, i2, i3⟩ := wk_len hm w ((!b) :: V')
          rw [List.length_cons] at i2 i3
          refine ⟨by rw [List.length_cons]; omega, by rw [List.length_cons]; omega, fun h => i3 ?_⟩
          rw [List.length_cons] at h
          rw [h]
          show (if 0 = 1 ∨ 0 = 2 then 1 else 0) + nb w + 1 = _
          rw [if_neg (by omega)]
          omega
        · match V' with
          | [] =>
            have e1 : wk m (c :: w) [b] = (c :: w, [b]) := by
              unfold wk
              rw [if_pos e]
              dsimp only
              rw [if_neg c0]
            rw [e1]; exact ⟨Nat.le_refl _, Nat.le_refl _, id⟩
          | a :: V'' =>
            rw [wk_1 e c0]
            obtain ⟨i1, i2, i3⟩ := wk_len hm w ((if c = 1 then a && b else a || b) :: V'')
            rw [List.length_cons] at i2 i3
            refine ⟨by rw [List.length_cons]; omega, by rw [List.length_cons, List.length_cons]; omega, fun h => ?_⟩
            rw [List.length_cons, List.length_cons] at h
            unfold nb at h
            by_cases c12 : c = 1 ∨ c = 2
            · rw [if_pos c12] at h; exact i3 (by omega)
            · omega
    · have e1 : wk m (c :: w) V = (c :: w, V) := by unfold wk; rw [if_neg e]
      rw [e1]; exact ⟨Nat.le_refl _, Nat.le_refl _, id⟩
