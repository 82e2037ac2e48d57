/-! ===== rooms that are joined ===== -/
def opn (pl : Nat → Nat → Nat) (p : Nat) : Bool := (pl 1 10).testBit p
def rcN (pl : Nat → Nat → Nat) : Nat → Nat → Nat
  | 0, r => 2 ^ r
  | p + 1, r => if opn pl p = true then (if (rcN pl p (pl 7 p) ||| rcN pl p (pl 8 p)).testBit r = true then rcN pl p (pl 7 p) ||| rcN pl p (pl 8 p) else rcN pl p r) else rcN pl p r
theorem rc_t {pl : Nat → Nat → Nat} {p r : Nat} (h : opn pl p = true) (hr : (rcN pl p (pl 7 p) ||| rcN pl p (pl 8 p)).testBit r = true) : rcN pl (p + 1) r = rcN pl p (pl 7 p) ||| rcN pl p (pl 8 p) := by
  show (if opn pl p = true then _ else _) = _
  rw [if_pos h, if_pos hr]
theorem rc_f {pl : Nat → Nat → Nat} {p r : Nat} (hr : ¬ (rcN pl p (pl 7 p) ||| rcN pl p (pl 8 p)).testBit r = true) : rcN pl (p + 1) r = rcN pl p r := by
  show (if opn pl p = true then _ else _) = _
  rw [if_neg hr, ite_self]
theorem rc_n {pl : Nat → Nat → Nat} {p r : Nat} (h : ¬ opn pl p = true) : rcN pl (p + 1) r = rcN pl p r := by
  show (if opn pl p = true then _ else _) = _
  rw [if_neg h]
theorem or_b {x y k : Nat} : (x ||| y).testBit k = true ↔ x.testBit k = true ∨ y.testBit k = true := by rw [Nat.testBit_or, Bool.or_eq_true]
theorem rc_ok {pl : Nat → Nat → Nat} (hB : PB pl) : ∀ p, p ≤ pl 1 6 → (∀ r, r < 5 → rcN pl p r < 32) ∧ (∀ r, (rcN pl p r).testBit r = true) ∧ ∀ r q, (rcN pl p r).testBit q = true → rcN pl p q = rcN pl p r
  | 0, _ => by
    refine ⟨fun r hr => ?_, fun r => Nat.testBit_two_pow_self, fun r q h => ?_⟩
    · exact Nat.pow_lt_pow_right (a := 2) (n := 5) (by omega) hr
    · have e : (2 ^ r).testBit q = true := h
      rw [Nat.testBit_two_pow] at e
      rw [of_decide_eq_true e]
  | p + 1, hp => by
    obtain ⟨h1, h2, h3⟩ := rc_ok hB p (by omega)
    have hn := hB.1.1
    obtain ⟨b1, b2, -⟩ := hB.2.2.2.2.2.2.1 p (by omega)
    by_cases ho : opn pl p = true
    · have hU : ∀ r, ¬ (rcN pl p (pl 7 p) ||| rcN pl p (pl 8 p)).testBit r = true → ∀ q, (rcN pl p r).testBit q = true → ¬ (rcN pl p (pl 7 p) ||| rcN pl p (pl 8 p)).testBit q = true := fun r hr q hq hqU => by
        have e := h3 r q hq
        apply hr
        rcases or_b.1 hqU with g | g
        · have e2 := h3 _ q g
          exact or_b.2 (Or.inl (by rw [← e2, e]; exact h2 r))
        · have e2 := h3 _ q g
          exact or_b.2 (Or.inr (by rw [← e2, e]; exact h2 r))
      refine ⟨fun r hr => ?_, fun r => ?_, fun r q h => ?_⟩
      · by_cases c : (rcN pl p (pl 7 p) ||| rcN pl p (pl 8 p)).testBit r = true
        · rw [rc_t ho c]; exact Nat.or_lt_two_pow (n := 5) (h1 _ (by omega)) (h1 _ (by omega))
        · rw [rc_f c]; exact h1 r hr
      · by_cases c : (rcN pl p (pl 7 p) ||| rcN pl p (pl 8 p)).testBit r = true
        · rw [rc_t ho c]; exact c
        · rw [rc_f c]; exact h2 r
      · by_cases c : (rcN pl p (pl 7 p) ||| rcN pl p (pl 8 p)).testBit r = true
        · rw [rc_t ho c] at h ⊢
          exact rc_t ho h
        · rw [rc_f c] at h ⊢
          rw [rc_f (hU r c q h)]
          exact h3 r q h
    · exact ⟨fun r hr => by rw [rc_n ho]; exact h1 r hr, fun r => by rw [rc_n ho]; exact h2 r, fun r q h => by rw [rc_n ho] at h ⊢; rw [rc_n ho]; exact h3 r q h⟩
theorem rc_pipe {pl : Nat → Nat → Nat} (hB : PB pl) {p' : Nat} (ho' : opn pl p' = true) : ∀ p, p ≤ pl 1 6 → p' < p → rcN pl p (pl 7 p') = rcN pl p (pl 8 p')
  | 0, _, h => absurd h (by omega)
  | p + 1, hp, h => by
    obtain ⟨h1, h2, h3⟩ := rc_ok hB p (by omega)
    by_cases ho : opn pl p = true
    · by_cases e : p' = p
      · subst e
        rw [rc_t ho (or_b.2 (Or.inl (h2 _))), rc_t ho (or_b.2 (Or.inr (h2 _)))]
      · have ih := rc_pipe hB ho' p (by omega) (by omega)
        have hiff : (rcN pl p (pl 7 p) ||| rcN pl p (pl 8 p)).testBit (pl 7 p') = true → (rcN pl p (pl 7 p) ||| rcN pl p (pl 8 p)).testBit (pl 8 p') = true := fun g => by
          rcases or_b.1 g with g | g
          · exact or_b.2 (Or.inl (by rw [← h3 _ _ g, ih]; exact h2 _))
          · exact or_b.2 (Or.inr (by rw [← h3 _ _ g, ih]; exact h2 _))
        have hiff2 : (rcN pl p (pl 7 p) ||| rcN pl p (pl 8 p)).testBit (pl 8 p') = true → (rcN pl p (pl 7 p) ||| rcN pl p (pl 8 p)).testBit (pl 7 p') = true := fun g => by
          rcases or_b.1 g with g | g
          · exact or_b.2 (Or.inl (by rw [← h3 _ _ g, ← ih]; exact h2 _))
          · exact or_b.2 (Or.inr (by rw [← h3 _ _ g, ← ih]; exact h2 _))
        by_cases c : (rcN pl p (pl 7 p) ||| rcN pl p (pl 8 p)).testBit (pl 7 p') = true
        · rw [rc_t ho c, rc_t ho (hiff c)]
        · rw [rc_f c, rc_f (fun g => c (hiff2 g))]
          exact ih
    · rw [rc_n ho, rc_n ho]
      refine rc_pipe hB ho' p (by omega) ?_
      apply Nat.lt_of_not_le
      intro hh
      have : p' = p := by omega
      rw [this] at ho'
      exact ho ho'
/-- the least such relation -/
theorem rc_min {pl : Nat → Nat → Nat} {α : Type} (f : Nat → α) : ∀ p, (∀ p', p' < p → opn pl p' = true → f (pl 7 p') = f (pl 8 p')) → ∀ r q, (rcN pl p r).testBit q = true → f q = f r
  | 0, _, r, q, h => by
    have e : (2 ^ r).testBit q = true := h
    rw [Nat.testBit_two_pow] at e
    rw [of_decide_eq_true e]
  | p + 1, hf, r, q, h => by
    have ih := rc_min f p (fun p' h1 h2 => hf p' (by omega) h2)
    by_cases ho : opn pl p = true
    · by_cases c : (rcN pl p (pl 7 p) ||| rcN pl p (pl 8 p)).testBit r = true
      · rw [rc_t ho c] at h
        have hab := hf p (by omega) ho
        have e : ∀ k, (rcN pl p (pl 7 p) ||| rcN pl p (pl 8 p)).testBit k = true → f k = f (pl 7 p) := fun k hk => by
          rcases or_b.1 hk with g | g
          · exact ih _ _ g
          · rw [ih _ _ g, hab]
        rw [e q h, e r c]
      · rw [rc_f c] at h
        exact ih r q h
    · rw [rc_n ho] at h
      exact ih r q h
/-- the rooms joined by all open pipes -/
def rc (pl : Nat → Nat → Nat) (r : Nat) : Nat := rcN pl (pl 1 6) r
section RC
variable {pl : Nat → Nat → Nat} (hB : PB pl)
theorem rc_lt (hB : PB pl) {r : Nat} (hr : r < 5) : rc pl r < 32 := (rc_ok hB _ (Nat.le_refl _)).1 r hr
theorem rc_self (hB : PB pl) (r : Nat) : (rc pl r).testBit r = true := (rc_ok hB _ (Nat.le_refl _)).2.1 r
theorem rc_eq (hB : PB pl) {r q : Nat} (h : (rc pl r).testBit q = true) : rc pl q = rc pl r := (rc_ok hB _ (Nat.le_refl _)).2.2 r q h
theorem rc_sym (hB : PB pl) {r q : Nat} (h : (rc pl r).testBit q = true) : (rc pl q).testBit r = true := by rw [rc_eq hB h]; exact rc_self hB r
theorem rc_open (hB : PB pl) {p : Nat} (hp : p < pl 1 6) (ho : opn pl p = true) : rc pl (pl 7 p) = rc pl (pl 8 p) := rc_pipe hB ho _ (Nat.le_refl _) hp
theorem rc_in (hB : PB pl) {r q : Nat} (h : (rc pl r).testBit q = true) : q < pl 1 0 ↔ r < pl 1 0 := by
  have := rc_min (pl := pl) (fun k => decide (k < pl 1 0)) (pl 1 6) (fun p' hp' _ => by
    obtain ⟨b1, b2, -⟩ := hB.2.2.2.2.2.2.1 p' hp'
    show decide (pl 7 p' < pl 1 0) = decide (pl 8 p' < pl 1 0)
    rw [decide_eq_true b1, decide_eq_true b2]) r q h
  exact decide_eq_decide.1 this
end RC
/-! ===== the model's labels ===== -/
def pst (pl : Nat → Nat → Nat) (f : Nat → Nat) (p : Nat) : Nat → Nat := fun q => if opn pl p = true then (if q = pl 7 p ∨ q = pl 8 p then min (f (pl 7 p)) (f (pl 8 p)) else f q) else f q
def prn (pl : Nat → Nat → Nat) (f : Nat → Nat) : Nat → Nat → Nat
  | 0 => f
  | p + 1 => pst pl (prn pl f p) p
def lab (pl : Nat → Nat → Nat) : Nat → Nat → Nat
  | 0 => fun q => q
  | k + 1 => prn pl (lab pl k) (pl 1 6)
def LA (pl : Nat → Nat → Nat) (f : Nat → Nat) : Prop := ∀ r, r < pl 1 0 → (rc pl r).testBit (f r) = true
theorem LA_pst {pl : Nat → Nat → Nat} (hB : PB pl) {f : Nat → Nat} (h : LA pl f) {p : Nat} (hp : p < pl 1 6) : LA pl (pst pl f p) := by
  intro r hr
  unfold pst
  by_cases ho : opn pl p = true
  · rw [if_pos ho]
    obtain ⟨b1, b2, -⟩ := hB.2.2.2.2.2.2.1 p hp
    have e := rc_open hB hp ho
    by_cases c : r = pl 7 p ∨ r = pl 8 p
    · rw [if_pos c]
      have er : rc pl r = rc pl (pl 7 p) := by rcases c with c | c <;> rw [c]; exact e.symm
      rw [er]
      rcases Nat.le_total (f (pl 7 p)) (f (pl 8 p)) with g | g
      · rw [Nat.min_eq_left g]; exact h _ b1
      · rw [Nat.min_eq_right g, e]; exact h _ b2
    · rw [if_neg c]; exact h r hr
  · rw [if_neg ho]; exact h r hr
theorem LA_prn {pl : Nat → Nat → Nat} (hB : PB pl) {f : Nat → Nat} (h : LA pl f) : ∀ p, p ≤ pl 1 6 → LA pl (prn pl f p)
  | 0, _ => h
  | p + 1, hp => LA_pst hB (LA_prn hB h p (by omega)) (by omega)
theorem LA_lab {pl : Nat → Nat → Nat} (hB : PB pl) : ∀ k, LA pl (lab pl k)
  | 0 => fun r _ => rc_self hB r
  | k + 1 => LA_prn hB (LA_lab hB k) _ (Nat.le_refl _)
section GROW
variable {pl : Nat → Nat → Nat} {m : Nat}
/-- m is the least of its rooms -/
def LM (pl : Nat → Nat → Nat) (m : Nat) : Prop := m < pl 1 0 ∧ ∀ j, j < m → ¬ (rc pl m).testBit j = true
theorem lm_ge (hB : PB pl) (hm : LM pl m) {f : Nat → Nat} (h : LA pl f) {r : Nat} (hr : r < pl 1 0) (hc : (rc pl m).testBit r = true) : m ≤ f r := by
  apply Nat.le_of_not_lt
  intro g
  have := h r hr
  rw [rc_eq hB hc] at this
  exact hm.2 _ g this
theorem keep_pst (hB : PB pl) (hm : LM pl m) {f : Nat → Nat} (h : LA pl f) {p : Nat} (hp : p < pl 1 6) {r : Nat} (hr : r < pl 1 0) (hc : (rc pl m).testBit r = true) (he : f r = m) : pst pl f p r = m := by
  unfold pst
  by_cases ho : opn pl p = true
  · rw [if_pos ho]
    obtain ⟨b1, b2, -⟩ := hB.2.2.2.2.2.2.1 p hp
    have e := rc_open hB hp ho
    by_cases c : r = pl 7 p ∨ r = pl 8 p
    · rw [if_pos c]
      have erm := rc_eq hB hc
      have hin : ∀ q, rc pl q = rc pl r → (rc pl m).testBit q = true := fun q hq => by rw [← erm, ← hq]; exact rc_self hB q
      rcases c with c | c
      · have := lm_ge hB hm h b2 (hin _ (by rw [c, e]))
        rw [← c, he]; omega
      · have := lm_ge hB hm h b1 (hin _ (by rw [c, ← e]))
        rw [← c, he]; omega
    · rw [if_neg c]; exact he
  · rw [if_neg ho]; exact he
theorem keep_prn (hB : PB pl) (hm : LM pl m) {f : Nat → Nat} (h : LA pl f) {r : Nat} (hr : r < pl 1 0) (hc : (rc pl m).testBit r = true) (he : f r = m) : ∀ p, p ≤ pl 1 6 → prn pl f p r = m
  | 0, _ => he
  | p + 1, hp => keep_pst hB hm (LA_prn hB h p (by omega)) (by omega) hr hc (keep_prn hB hm h hr hc he p (by omega))
/-- a pipe carries the least number on -/
theorem carry (hB : PB pl) (hm : LM pl m) {f : Nat → Nat} (h : LA pl f) {p' : Nat} (ho : opn pl p' = true) (hc : (rc pl m).testBit (pl 7 p') = true) (he : f (pl 7 p') = m ∨ f (pl 8 p') = m) : ∀ p, p ≤ pl 1 6 → p' < p → prn pl f p (pl 7 p') = m ∧ prn pl f p (pl 8 p') = m
  | 0, _, hlt => absurd hlt (by omega)
  | p + 1, hp, hlt => by
    obtain ⟨b1, b2, -⟩ := hB.2.2.2.2.2.2.1 p' (by omega)
    have e := rc_open hB (show p' < pl 1 6 by omega) ho
    have hc2 : (rc pl m).testBit (pl 8 p') = true := by rw [← rc_eq hB hc, e]; exact rc_self hB _
    have hA := LA_prn hB h p (by omega)
    by_cases c : p' = p
    · subst c
      have hmin : min (prn pl f p' (pl 7 p')) (prn pl f p' (pl 8 p')) = m := by
        have g1 := lm_ge hB hm hA b1 hc
        have g2 := lm_ge hB hm hA b2 hc2
        rcases he with he | he
        · rw [keep_prn hB hm h b1 hc he p' (by omega)]; omega
        · rw [keep_prn hB hm h b2 hc2 he p' (by omega)]; omega
      constructor
      · show pst pl (prn pl f p') p' (pl 7 p') = m
        unfold pst
        rw [if_pos ho, if_pos (Or.inl rfl)]; exact hmin
      · show pst pl (prn pl f p') p' (pl 8 p') = m
        unfold pst
        rw [if_pos ho, if_pos (Or.inr rfl)]; exact hmin
    · obtain ⟨i1, i2⟩ := carry hB hm h ho hc he p (by omega) (by omega)
      exact ⟨keep_pst hB hm hA (by omega) b1 hc i1, keep_pst hB hm hA (by omega) b2 hc2 i2⟩
end GROW
def c5 (P : Nat → Bool) : Nat := (if P 0 = true then 1 else 0) + (if P 1 = true then 1 else 0) + (if P 2 = true then 1 else 0) + (if P 3 = true then 1 else 0) + (if P 4 = true then 1 else 0)
theorem c5_le (P : Nat → Bool) : c5 P ≤ 5 := by
  unfold c5
  have : ∀ b : Bool, (if b = true then 1 else 0) ≤ 1 := fun b => by cases b <;> decide
  have h0 := this (P 0)
  have h1 := this (P 1)
  have h2 := this (P 2)
  have h3 := this (P 3)
  have h4 := this (P 4)
  omega
theorem c5_lt {P P' : Nat → Bool} (h : ∀ q, q < 5 → P q = true → P' q = true) {k : Nat} (hk : k < 5) (h1 : P k = false) (h2 : P' k = true) : c5 P + 1 ≤ c5 P' := by
  have hle : ∀ q, q < 5 → (if P q = true then 1 else 0) ≤ (if P' q = true then 1 else 0) := fun q hq => by
    cases e : P q
    · rw [if_neg (by decide)]; omega
    · rw [h q hq e]; exact Nat.le_refl _
  have e0 := hle 0 (by omega)
  have e1 := hle 1 (by omega)
  have e2 := hle 2 (by omega)
  have e3 := hle 3 (by omega)
  have e4 := hle 4 (by omega)
  have ek : (if P k = true then 1 else 0) + 1 = (if P' k = true then 1 else 0) := by rw [h1, h2]; rfl
  unfold c5
  rcases (show k = 0 ∨ k = 1 ∨ k = 2 ∨ k = 3 ∨ k = 4 by omega) with rfl | rfl | rfl | rfl | rfl <;> omega
theorem c5_pos {P : Nat → Bool} {k : Nat} (hk : k < 5) (h : P k = true) : 1 ≤ c5 P := by
  have := c5_lt (P := fun _ => false) (P' := P) (fun q _ e => by cases e) hk rfl h
  omega
theorem grow {pl : Nat → Nat → Nat} (hB : PB pl) {m : Nat} (hm : LM pl m) : ∀ k, (∀ q, q < pl 1 0 → (rc pl m).testBit q = true → lab pl k q = m) ∨ k + 1 ≤ c5 (fun q => decide (q < pl 1 0) && ((rc pl m).testBit q && decide (lab pl k q = m)))
  | 0 => by
    right
    have hn := hB.1.1
    have hm0 := hm.1
    refine c5_pos (k := m) (by omega) ?_
    show (decide (m < pl 1 0) && ((rc pl m).testBit m && decide (m = m))) = true
    rw [decide_eq_true hm.1, decide_eq_true rfl, rc_self hB m]; rfl
  | k + 1 => by
    have hn := hB.1.1
    have hA := LA_lab hB k
    rcases grow hB hm k with h | h
    · left
      intro q hq hc
      exact keep_prn hB hm hA hq hc (h q hq hc) _ (Nat.le_refl _)
    · by_cases hall : ∀ q, q < pl 1 0 → (rc pl m).testBit q = true → lab pl k q = m
      · left
        intro q hq hc
        exact keep_prn hB hm hA hq hc (hall q hq hc) _ (Nat.le_refl _)
      · right
        have hex : ∃ p, p < pl 1 6 ∧ opn pl p = true ∧ ((rc pl m).testBit (pl 7 p) && decide (lab pl k (pl 7 p) = m)) ≠ ((rc pl m).testBit (pl 8 p) && decide (lab pl k (pl 8 p) = m)) := by
          apply Classical.byContradiction
          intro hne
          apply hall
          intro q hq hc
          have h1 := rc_min (pl := pl) (fun r => ((rc pl m).testBit r && decide (lab pl k r = m))) (pl 1 6) (fun p' hp' ho' => by
            apply Classical.byContradiction
            intro hd
            exact hne ⟨p', hp', ho', hd⟩) m q hc
          have hlm : lab pl k m = m := by
            have h2 := lm_ge hB hm hA hm.1 (rc_self hB m)
            have hle : ∀ k q, lab pl k q ≤ q := by
              intro k
              induction k with
              | zero => intro q; exact Nat.le_refl _
              | succ k ih =>
                have : ∀ p q, prn pl (lab pl k) p q ≤ q := by
                  intro p
                  induction p with
                  | zero => intro q; exact ih q
                  | succ p ihp =>
                    intro q
                    show pst pl (prn pl (lab pl k) p) p q ≤ q
                    unfold pst
                    have i1 := ihp (pl 7 p)
                    have i2 := ihp (pl 8 p)
                    have i3 := ihp q
                    split
                    · split
                      · rename_i c
                        rcases c with c | c
                        · rw [c]; omega
                        · rw [c]; omega
                      · exact i3
                    · exact i3
                exact fun q => this _ q
            have h3 := hle k m
            omega
          rw [hc, rc_self hB m, hlm, decide_eq_true rfl, Bool.true_and, Bool.true_and] at h1
          exact of_decide_eq_true h1
        obtain ⟨p, hp, ho, hd⟩ := hex
        obtain ⟨b1, b2, -⟩ := hB.2.2.2.2.2.2.1 p hp
        have e := rc_open hB hp ho
        have hcc : (rc pl m).testBit (pl 7 p) = (rc pl m).testBit (pl 8 p) := by
          cases c1 : (rc pl m).testBit (pl 7 p)
          · cases c2 : (rc pl m).testBit (pl 8 p)
            · rfl
            · have := rc_eq hB c2
              rw [← e] at this
              have h4 := rc_self hB (pl 7 p)
              rw [this, c1] at h4; cases h4
          · have := rc_eq hB c1
            rw [e] at this
            have h4 := rc_self hB (pl 8 p)
            rw [this] at h4
            exact h4.symm
        have hct : (rc pl m).testBit (pl 7 p) = true := by
          cases c1 : (rc pl m).testBit (pl 7 p)
          · rw [← hcc, c1, Bool.false_and, Bool.false_and] at hd
            exact absurd rfl hd
          · rfl
        rw [← hcc, hct, Bool.true_and, Bool.true_and] at hd
        have hmono : ∀ q, q < 5 → (decide (q < pl 1 0) && ((rc pl m).testBit q && decide (lab pl k q = m))) = true → (decide (q < pl 1 0) && ((rc pl m).testBit q && decide (lab pl (k + 1) q = m))) = true := fun q _ hq => by
          rw [Bool.and_eq_true, Bool.and_eq_true] at hq ⊢
          refine ⟨hq.1, hq.2.1, decide_eq_true ?_⟩
          exact keep_prn hB hm hA (of_decide_eq_true hq.1) hq.2.1 (of_decide_eq_true hq.2.2) _ (Nat.le_refl _)
        by_cases c1 : lab pl k (pl 7 p) = m
        · have c2 : ¬ lab pl k (pl 8 p) = m := fun g => hd (by rw [decide_eq_true c1, decide_eq_true g])
          have hcar := carry hB hm hA ho hct (Or.inl c1) _ (Nat.le_refl _) hp
          have := c5_lt hmono (k := pl 8 p) (by omega) (by rw [decide_eq_false c2, Bool.and_false, Bool.and_false]) (by rw [decide_eq_true b2, ← hcc, hct, decide_eq_true (show lab pl (k + 1) (pl 8 p) = m from hcar.2)]; rfl)
          omega
        · have c2 : lab pl k (pl 8 p) = m := by
            apply Classical.byContradiction
            intro g
            exact hd (by rw [decide_eq_false c1, decide_eq_false g])
          have hcar := carry hB hm hA ho hct (Or.inr c2) _ (Nat.le_refl _) hp
          have := c5_lt hmono (k := pl 7 p) (by omega) (by rw [decide_eq_false c1, Bool.and_false, Bool.and_false]) (by rw [decide_eq_true b1, hct, decide_eq_true (show lab pl (k + 1) (pl 7 p) = m from hcar.1)]; rfl)
          omega
/-- joined rooms have the same number, and no others -/
theorem lab_iff {pl : Nat → Nat → Nat} (hB : PB pl) {r q : Nat} (hr : r < pl 1 0) (hq : q < pl 1 0) : lab pl 5 q = lab pl 5 r ↔ (rc pl r).testBit q = true := by
  constructor
  · intro h
    have h1 := LA_lab hB 5 r hr
    have h2 := LA_lab hB 5 q hq
    rw [h] at h2
    have e1 := rc_eq hB h1
    have e2 := rc_eq hB h2
    rw [← e1, e2]
    exact rc_self hB q
  · intro h
    obtain ⟨m, m1, m2⟩ := pk_least (fun k => (rc pl r).testBit k = true) ⟨r, rc_self hB r⟩
    have em := rc_eq hB m1
    have hm : LM pl m := ⟨(rc_in hB m1).2 hr, fun j hj => by rw [em]; exact m2 j hj⟩
    rcases grow hB hm 5 with g | g
    · rw [g q hq (by rw [em]; exact h), g r hr (by rw [em]; exact rc_self hB r)]
    · have := c5_le (fun q => decide (q < pl 1 0) && ((rc pl m).testBit q && decide (lab pl 5 q = m)))
      omega
