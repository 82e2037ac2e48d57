theorem sNum_le {t : Nat → Int32} {L : Nat} : ∀ k p v, p ≤ (sNum t L k p v).1
  | 0, p, v => Nat.le_refl _
  | k + 1, p, v => by
    unfold sNum
    split
    · exact Nat.le_trans (Nat.le_succ p) (sNum_le k (p + 1) _)
    · exact Nat.le_refl _
theorem sCmp2_lt {t : Nat → Int32} {L : Nat} {f w : Int32} {p : Nat} {s : List Int32} (h : (sCmp2 t L f w p).2 = some s) : p < (sCmp2 t L f w p).1 := by
  unfold sCmp2 at h ⊢
  by_cases h1 : sRel (tx t L p) = -1
  · rw [if_pos h1] at h; cases h
  rw [if_neg h1] at h ⊢
  by_cases h2 : 48 ≤ (tx t L (p + 1)).toInt ∧ (tx t L (p + 1)).toInt ≤ 57
  · rw [if_pos h2]
    have := sNum_le (t := t) (L := L) 4 (p + 2) (tx t L (p + 1) - 48)
    dsimp only
    omega
  · rw [if_neg h2] at h; cases h
theorem sCmp_lt {t : Nat → Int32} {L p : Nat} {s : List Int32} (h : (sCmp t L p).2 = some s) : p < (sCmp t L p).1 := by
  unfold sCmp at h ⊢
  by_cases h1 : sFact (tx t L p) = -1
  · rw [if_pos h1] at h; cases h
  rw [if_neg h1] at h ⊢
  by_cases h2 : sFact (tx t L p) = 4
  · rw [if_pos h2] at h ⊢
    have := sCmp2_lt h
    omega
  rw [if_neg h2] at h ⊢
  by_cases h3 : 48 ≤ (tx t L (p + 1)).toInt ∧ (tx t L (p + 1)).toInt ≤ 57
  · rw [if_pos h3] at h ⊢
    have := sCmp2_lt h
    omega
  · rw [if_neg h3] at h; cases h
def PMc (τ0 : Hp) (L d : Nat) (G : Nat → Nat × Option (List Int32)) : Prop := ∀ p, p ≤ L → (G p).1 ≤ L ∧ (∀ s, (G p).2 = some s → p < (G p).1) ∧ ∀ Q w, w.length = d → ((G p).2 = none → ∀ y, Qm τ0 0 (G p).1 y → Q y) → (∀ s, (G p).2 = some s → BM τ0 Q (G p).1 (cs w)) → AM τ0 Q p w
def TMc (τ0 : Hp) (L d : Nat) (X : Int32 → Prop) (G : Nat → Nat × Option (List Int32)) : Prop := ∀ p, p ≤ L → (G p).1 ≤ L ∧ (∀ s, (G p).2 = some s → p < (G p).1 ∧ ¬ X (tx (τ0.1 115) L (G p).1)) ∧ ∀ Q w, w.length = d → cs w = w → ((G p).2 = none → ∀ y, Qm τ0 0 (G p).1 y → Q y) → (∀ s, (G p).2 = some s → BM τ0 Q (G p).1 w) → AM τ0 Q p w
theorem TMc_P {τ0 : Hp} {L d : Nat} {G : Nat → Nat × Option (List Int32)} (h : PMc τ0 L d G) : TMc τ0 L d (fun _ => False) G := by
  intro p hp
  obtain ⟨h1, h2, h3⟩ := h p hp
  exact ⟨h1, fun s hs => ⟨h2 s hs, id⟩, fun Q w hw hc hn hs => h3 Q w hw hn (fun s e => by rw [hc]; exact hs s e)⟩
theorem loop_TM {τ0 : Hp} {L d : Nat} (hL : τ0.1 86 37 = nI L) (hL40 : L ≤ 40) {X : Int32 → Prop} {op code : Int32} (hop : op = 38 ∨ op = 124) {G : Nat → Nat × Option (List Int32)} (hG : TMc τ0 L d X G) : ∀ kk p acc, 41 ≤ kk + p → p ≤ L → ¬ X (tx (τ0.1 115) L p) → (sLoop (τ0.1 115) L op code G kk p acc).1 ≤ L ∧ (∀ s, (sLoop (τ0.1 115) L op code G kk p acc).2 = some s → p ≤ (sLoop (τ0.1 115) L op code G kk p acc).1 ∧ ¬ (X (tx (τ0.1 115) L (sLoop (τ0.1 115) L op code G kk p acc).1) ∨ tx (τ0.1 115) L (sLoop (τ0.1 115) L op code G kk p acc).1 = op)) ∧ ∀ Q w, w.length = d → cs w = w → ((sLoop (τ0.1 115) L op code G kk p acc).2 = none → ∀ y, Qm τ0 0 (sLoop (τ0.1 115) L op code G kk p acc).1 y → Q y) → (∀ s, (sLoop (τ0.1 115) L op code G kk p acc).2 = some s → BM τ0 Q (sLoop (τ0.1 115) L op code G kk p acc).1 w) → BM τ0 Q p w := by
  intro kk
  induction kk with
  | zero => intro p acc h1 h2; exact absurd h1 (by omega)
  | succ kk ih =>
    intro p acc h1 h2 hX
    unfold sLoop
    by_cases e : tx (τ0.1 115) L p = op
    · have hp : p < L := tx_lt (fun e2 => by rw [e2] at e; rcases hop with h | h <;> rw [h] at e <;> exact absurd e (by decide))
      simp only [if_pos e]
      obtain ⟨g1, g2, g3⟩ := hG (p + 1) (by omega)
      have hopp : tx (τ0.1 115) L p = 38 ∨ tx (τ0.1 115) L p = 124 := by rw [e]; exact hop
      match hx : G (p + 1) with
      | (q, none) =>
        rw [hx] at g1 g3
        unfold sThen
        dsimp only at g1 g3 ⊢
        exact ⟨g1, fun s e => (by cases e), fun Q w hw hc hn hs => mB_op hL hL40 hopp (g3 Q w hw hc hn (fun s e => by cases e))⟩
      | (q, some s) =>
        rw [hx] at g1 g2 g3
        obtain ⟨g4, g5⟩ := g2 s rfl
        unfold sThen
        dsimp only at g1 g3 g4 g5 ⊢
        obtain ⟨i2, i3, i4⟩ := ih q (acc ++ s ++ [code]) (by omega) g1 g5
        refine ⟨i2, fun s' e' => ⟨by have := (i3 s' e').1; omega, (i3 s' e').2⟩, fun Q w hw hc hn hs => mB_op hL hL40 hopp (g3 Q w hw hc (fun e => by cases e) (fun s' e' => i4 Q w hw hc hn hs))⟩
    · simp only [if_neg e]
      refine ⟨h2, fun s _ => ⟨Nat.le_refl _, fun h => h.elim hX e⟩, fun Q w hw hc hn hs => hs acc rfl⟩
theorem seq_TM {τ0 : Hp} {L d : Nat} (hL : τ0.1 86 37 = nI L) (hL40 : L ≤ 40) {X : Int32 → Prop} {op code : Int32} (hop : op = 38 ∨ op = 124) {G : Nat → Nat × Option (List Int32)} (hG : TMc τ0 L d X G) : TMc τ0 L d (fun c => X c ∨ c = op) (sSeq (τ0.1 115) L op code G) := by
  intro p hp
  obtain ⟨g1, g2, g3⟩ := hG p hp
  unfold sSeq
  match hx : G p with
  | (q, none) =>
    rw [hx] at g1 g3
    unfold sThen
    exact ⟨g1, fun s e => (by cases e), fun Q w hw hc hn hs => g3 Q w hw hc hn (fun s e => by cases e)⟩
  | (q, some s) =>
    rw [hx] at g1 g2 g3
    obtain ⟨g4, g5⟩ := g2 s rfl
    unfold sThen
    dsimp only at g1 g3 g4 g5 ⊢
    obtain ⟨i2, i3, i4⟩ := loop_TM (code := code) hL hL40 hop hG 40 q s (by omega) g1 g5
    exact ⟨i2, fun s' e => ⟨by have := (i3 s' e).1; omega, (i3 s' e).2⟩, fun Q w hw hc hn hs => g3 Q w hw hc (fun e => by cases e) (fun s' e' => i4 Q w hw hc hn hs)⟩
theorem part_TM {τ0 : Hp} {L d : Nat} (hL : τ0.1 86 37 = nI L) (hL40 : L ≤ 40) (hd : d ≤ 4) {G0 G2 : Nat → Nat × Option (List Int32)} (h0 : d < 4 → TMc τ0 L (d + 1) (fun c => (False ∨ c = 38) ∨ c = 124) G0) (h2 : d < 4 → PMc τ0 L (d + 1) G2) : PMc τ0 L d (fun p => if tx (τ0.1 115) L p = 33 then (if d < 4 then sThen (G2 (p + 1)) (fun q s => (q, some (s ++ [0]))) else (p, none))
    else if tx (τ0.1 115) L p = 40 then (if d < 4 then sThen (G0 (p + 1)) (fun q s => if tx (τ0.1 115) L q = 41 then (q + 1, some s) else (q, none)) else (p, none))
    else sCmp (τ0.1 115) L p) := by
  intro p hp
  dsimp only
  by_cases e1 : tx (τ0.1 115) L p = 33
  · simp only [if_pos e1]
    have hpl : p < L := tx_lt (by rw [e1]; decide)
    by_cases hd4 : d < 4
    · simp only [if_pos hd4]
      obtain ⟨g1, g2, g3⟩ := h2 hd4 (p + 1) (by omega)
      match hx : G2 (p + 1) with
      | (q, none) =>
        rw [hx] at g1 g3
        unfold sThen
        exact ⟨g1, fun s e => (by cases e), fun Q w hw hn hs => mA_open hL hL40 (by omega) (Or.inl ⟨e1, rfl⟩) (g3 Q (1 :: w) (by rw [List.length_cons, hw]) hn (fun s e => by cases e))⟩
      | (q, some s) =>
        rw [hx] at g1 g2 g3
        have g4 := g2 s rfl
        unfold sThen
        dsimp only at g1 g3 g4 ⊢
        exact ⟨g1, fun s' e => (by omega), fun Q w hw hn hs => mA_open hL hL40 (by omega) (Or.inl ⟨e1, rfl⟩) (g3 Q (1 :: w) (by rw [List.length_cons, hw]) (fun e => by cases e) (fun s' e' => hs _ rfl))⟩
    · simp only [if_neg hd4]
      exact ⟨hp, fun s e => (by cases e), fun Q w hw hn hs => mA_full hL hL40 (by omega) hp (Or.inl e1) (hn (by trivial))⟩
  simp only [if_neg e1]
  by_cases e2 : tx (τ0.1 115) L p = 40
  · simp only [if_pos e2]
    have hpl : p < L := tx_lt (by rw [e2]; decide)
    by_cases hd4 : d < 4
    · simp only [if_pos hd4]
      obtain ⟨g1, g2, g3⟩ := h0 hd4 (p + 1) (by omega)
      have hc2 : ∀ w, cs (2 :: w) = 2 :: w := fun w => rfl
      match hx : G0 (p + 1) with
      | (q, none) =>
        rw [hx] at g1 g3
        unfold sThen
        exact ⟨g1, fun s e => (by cases e), fun Q w hw hn hs => mA_open hL hL40 (by omega) (Or.inr ⟨e2, rfl⟩) (g3 Q (2 :: w) (by rw [List.length_cons, hw]) (hc2 w) hn (fun s e => by cases e))⟩
      | (q, some s) =>
        rw [hx] at g1 g2 g3
        obtain ⟨g4, g5⟩ := g2 s rfl
        unfold sThen
        dsimp only at g1 g3 g4 g5 ⊢
        by_cases e3 : tx (τ0.1 115) L q = 41
        · have hql : q < L := tx_lt (by rw [e3]; decide)
          simp only [if_pos e3]
          exact ⟨hql, fun s' e => (by omega), fun Q w hw hn hs => mA_open hL hL40 (by omega) (Or.inr ⟨e2, rfl⟩) (g3 Q (2 :: w) (by rw [List.length_cons, hw]) (hc2 w) (fun e => by cases e) (fun s' e' => mB_close hL hL40 e3 (hs _ rfl)))⟩
        · simp only [if_neg e3]
          exact ⟨g1, fun s' e => (by cases e), fun Q w hw hn hs => mA_open hL hL40 (by omega) (Or.inr ⟨e2, rfl⟩) (g3 Q (2 :: w) (by rw [List.length_cons, hw]) (hc2 w) (fun e => by cases e) (fun s' e' => mB_fail hL hL40 g1 (fun h => g5 (Or.inl (Or.inr h))) (fun h => g5 (Or.inr h)) (fun h => absurd h e3) (fun _ h => by cases h) (hn (by trivial))))⟩
    · simp only [if_neg hd4]
      exact ⟨hp, fun s e => (by cases e), fun Q w hw hn hs => mA_full hL hL40 (by omega) hp (Or.inr e2) (hn (by trivial))⟩
  simp only [if_neg e2]
  refine ⟨?_, fun s e => sCmp_lt e, fun Q w hw hn hs => mA_cmp hL hL40 hp e1 e2 hn (fun s e => ⟨sCmp_lt e, hs s e⟩)⟩
  obtain ⟨τ', -, -, -, k4⟩ := pm_cmp (τ0 := τ0) (w := []) hL hL40 hp (τ := sI (sI τ0 86 40 0) 86 39 (nI p)) ⟨⟨rfl, rfl⟩, trivial, fr_s (by decide) (fr_s (by decide) (fr_0 _ _)), fun j h1 h2 => by show upd (upd (τ0.1 86) 40 0) 39 _ j = _; rw [upd_at, if_neg h1, upd_at, if_neg h2]⟩
  exact k4
theorem all_TM {τ0 : Hp} {L : Nat} (hL : τ0.1 86 37 = nI L) (hL40 : L ≤ 40) : ∀ m d, d ≤ 4 → (3 * (4 - d) + 3 ≤ m → TMc τ0 L d (fun c => (False ∨ c = 38) ∨ c = 124) (sT (τ0.1 115) L m 0 d)) ∧ (3 * (4 - d) + 2 ≤ m → TMc τ0 L d (fun c => False ∨ c = 38) (sT (τ0.1 115) L m 1 d)) ∧ (3 * (4 - d) + 1 ≤ m → PMc τ0 L d (sT (τ0.1 115) L m 2 d)) := by
  intro m
  induction m with
  | zero => intro d hd; exact ⟨fun h => absurd h (by omega), fun h => absurd h (by omega), fun h => absurd h (by omega)⟩
  | succ m ih =>
    intro d hd
    refine ⟨fun h => ?_, fun h => ?_, fun h => ?_⟩
    · exact seq_TM hL hL40 (op := 124) (code := 2) (Or.inr rfl) ((ih d hd).2.1 (by omega))
    · exact seq_TM hL hL40 (op := 38) (code := 1) (Or.inl rfl) (TMc_P ((ih d hd).2.2 (by omega)))
    · exact part_TM hL hL40 hd (fun h4 => (ih (d + 1) (by omega)).1 (by omega)) (fun h4 => (ih (d + 1) (by omega)).2.2 (by omega))
