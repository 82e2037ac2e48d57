/-! ===== orders of starting ===== -/
def cd (al : Nat → Nat → Bool) (set p S : Nat) : Prop := p < 8 ∧ set.testBit p = true ∧ S.testBit p = false ∧ al p S = true
def Pth (al : Nat → Nat → Bool) (set : Nat) : Nat → List Nat → Prop
  | S, [] => S = set
  | S, p :: l => cd al set p S ∧ Pth al set (S ||| 2 ^ p) l
def can (al : Nat → Nat → Bool) (set S : Nat) : Prop := ∃ l, Pth al set S l
def Gr (al : Nat → Nat → Bool) (set : Nat) : Nat → List Nat → Prop
  | S, [] => S = set
  | S, p :: l => (cd al set p S ∧ ∀ q, q < p → cd al set q S → ¬ can al set (S ||| 2 ^ q)) ∧ Gr al set (S ||| 2 ^ p) l
def sub (S T : Nat) : Prop := ∀ k, S.testBit k = true → T.testBit k = true
theorem sub_le {S T : Nat} (h : sub S T) : S ≤ T := by
  have e : S = S &&& T := by
    apply Nat.eq_of_testBit_eq
    intro i
    rw [Nat.testBit_and]
    cases hs : S.testBit i
    · rfl
    · rw [h i hs]; rfl
  rw [e]
  exact Nat.and_le_right
theorem sub_or {S T p : Nat} (h : sub S T) (hp : T.testBit p = true) : sub (S ||| 2 ^ p) T := fun k hk => by
  rw [or_t, Bool.or_eq_true] at hk
  rcases hk with h1 | h1
  · exact h k h1
  · rw [of_decide_eq_true h1]; exact hp
theorem or_gt {S p : Nat} (h : S.testBit p = false) : S < S ||| 2 ^ p := by
  apply Nat.lt_of_le_of_ne Nat.left_le_or
  intro e
  rw [e, or_t, decide_eq_true rfl, Bool.or_true] at h
  cases h
theorem can_set (al : Nat → Nat → Bool) (set : Nat) : can al set set := ⟨[], rfl⟩
theorem can_step {al : Nat → Nat → Bool} {set S p : Nat} (h : cd al set p S) (hc : can al set (S ||| 2 ^ p)) : can al set S := by
  obtain ⟨l, hl⟩ := hc
  exact ⟨p :: l, h, hl⟩
theorem can_inv {al : Nat → Nat → Bool} {set S : Nat} (h : can al set S) : S = set ∨ ∃ p, cd al set p S ∧ can al set (S ||| 2 ^ p) := by
  obtain ⟨l, hl⟩ := h
  cases l with
  | nil => exact Or.inl hl
  | cons p l => exact Or.inr ⟨p, hl.1, l, hl.2⟩
theorem can_gr {al : Nat → Nat → Bool} {set : Nat} : ∀ N S, set - S ≤ N → sub S set → can al set S → ∃ l, Gr al set S l := by
  intro N
  induction N with
  | zero =>
    intro S h1 h2 h3
    have := sub_le h2
    exact ⟨[], show S = set by omega⟩
  | succ N ih =>
    intro S h1 h2 h3
    rcases can_inv h3 with e | he
    · exact ⟨[], e⟩
    · obtain ⟨p, ⟨hp1, hp2⟩, hp3⟩ := pk_least (fun p => cd al set p S ∧ can al set (S ||| 2 ^ p)) he
      have h4 := sub_le (sub_or h2 hp1.2.1)
      have h5 := or_gt hp1.2.2.1
      obtain ⟨l, hl⟩ := ih (S ||| 2 ^ p) (by omega) (sub_or h2 hp1.2.1) hp2
      exact ⟨p :: l, ⟨hp1, fun q hq hc hcan => hp3 q hq ⟨hc, hcan⟩⟩, hl⟩
theorem pth_al {al : Nat → Nat → Bool} {set q : Nat} (hq : set.testBit q = true) : ∀ l S, Pth al set S l → S.testBit q = false → ∃ S', al q S' = true
  | [], S, h, h2 => by
    have e : S = set := h
    rw [e, hq] at h2
    cases h2
  | p :: l, S, h, h2 => by
    by_cases e : p = q
    · rw [← e]; exact ⟨S, h.1.2.2.2⟩
    · exact pth_al hq l _ h.2 (by rw [or_t, h2, decide_eq_false (fun g => e g.symm)]; rfl)
noncomputable def canB (al : Nat → Nat → Bool) (set S : Nat) : Bool := @decide (can al set S) (Classical.propDecidable _)
theorem canB_t {al : Nat → Nat → Bool} {set S : Nat} : canB al set S = true ↔ can al set S := by
  unfold canB
  exact @decide_eq_true_iff _ (Classical.propDecidable _)
theorem and2p (x p : Nat) : x &&& 2 ^ p = if x.testBit p = true then 2 ^ p else 0 := by
  apply Nat.eq_of_testBit_eq
  intro i
  rw [Nat.testBit_and, Nat.testBit_two_pow]
  by_cases e : p = i
  · subst e
    rw [decide_eq_true rfl, Bool.and_true]
    cases h : x.testBit p
    · rw [if_neg (by decide), Nat.zero_testBit]
    · rw [if_pos rfl, Nat.testBit_two_pow_self]
  · rw [decide_eq_false e, Bool.and_false]
    split
    · rw [Nat.testBit_two_pow, decide_eq_false e]
    · rw [Nat.zero_testBit]
theorem left_e {set S p : Nat} (hset : set < 256) (hS : S < 256) (hp : p < 8) {α : Type} (x y : α) : (if ((nI set &&& (nI S ^^^ (-1 : Int32))) &&& ((1 : Int32) <<< (nI p &&& 31))) = 0 then x else y) = if set.testBit p = true ∧ S.testBit p = false then y else x := by
  have hx : S ^^^ (2 ^ 32 - 1) < 2 ^ 32 := Nat.xor_lt_two_pow (by omega) (by omega)
  have h1 : set &&& (S ^^^ (2 ^ 32 - 1)) ≤ set := Nat.and_le_left
  have h2p := two16 (p := p) (by omega)
  have hb : (set &&& (S ^^^ (2 ^ 32 - 1))).testBit p = (set.testBit p && !S.testBit p) := by
    rw [Nat.testBit_and, Nat.testBit_xor, Nat.testBit_two_pow_sub_one, decide_eq_true (show p < 32 by omega), Bool.xor_true]
  rw [show (-1 : Int32) = nI (2 ^ 32 - 1) from rfl, nI_xor (by omega) (by omega), nI_and (by omega) hx, shl16 p (by omega), nI_and (by omega) (by omega), and2p, hb]
  by_cases c : set.testBit p = true ∧ S.testBit p = false
  · rw [if_pos c, c.1, c.2, if_pos (show (true && !false) = true from rfl)]
    exact if_neg (nI_ne0 (Nat.two_pow_pos p) (by omega))
  · rw [if_neg c]
    refine if_pos ?_
    rw [if_neg]
    · rfl
    · intro h
      rw [Bool.and_eq_true, Bool.not_eq_true'] at h
      exact c h
/-- the next one of the class -/
theorem ord_next {al : Nat → Nat → Bool} {set S on : Nat} {σ : Hp} (hset : set < 256) (hon : on < 256) (hS : sub S set) (hE : ∀ p, p < 8 → set.testBit p = true → S.testBit p = false → σ.1 53 (S ||| 2 ^ p) = oB (canB al set (S ||| 2 ^ p))) (hF : ∀ p, p < 8 → set.testBit p = true → ∃ R, f_X8_forbidder (nI p) 1 (nI (on ||| S)) σ = some R ∧ al p S = decide (R = -9)) :
    ∃ r, f_X10_next (nI set) (nI S) (nI on) σ = some r ∧ ((r = -9 ∧ ∀ p, cd al set p S → ¬ can al set (S ||| 2 ^ p)) ∨ ∃ p, r = nI p ∧ cd al set p S ∧ can al set (S ||| 2 ^ p) ∧ ∀ q, q < p → cd al set q S → ¬ can al set (S ||| 2 ^ q)) := by
  have hS2 := sub_le hS
  unfold f_X10_next
  refine lp_e (Q := fun y => ∃ r, y = some r ∧ ((r = -9 ∧ ∀ p, cd al set p S → ¬ can al set (S ||| 2 ^ p)) ∨ ∃ p, r = nI p ∧ cd al set p S ∧ can al set (S ||| 2 ^ p) ∧ ∀ q, q < p → cd al set q S → ¬ can al set (S ||| 2 ^ q))) 8 (fun i s => s = nI i ∧ ∀ q, q < i → cd al set q S → ¬ can al set (S ||| 2 ^ q)) ?_ ?_ 0 (Nat.zero_le _) (by omega) ⟨rfl, fun q hq => absurd hq (by omega)⟩
  · rintro i s hi ⟨rfl, h1⟩ K
    have hstep : ∀ (hn : ¬ (cd al set i S ∧ can al set (S ||| 2 ^ i))), ∀ q, q < i + 1 → cd al set q S → ¬ can al set (S ||| 2 ^ q) := fun hn q hq hc hcan => by
      by_cases e : q = i
      · subst e; exact hn ⟨hc, hcan⟩
      · exact h1 q (by omega) hc hcan
    have hK : f_X10_next_j87 (nI i) K () = K (nI (i + 1)) := by
      unfold f_X10_next_j87
      rw [lt_e, nI_1]
    unfold f_X10_next_l3
    rw [show ∀ y z : Option Int32, (if (8 : Int32) ≤ nI i then y else z) = z from fun y z => le_f (a := 8) (by omega) (by omega), lt_e, jn_e, left_e hset (by omega) hi]
    unfold f_X10_next_j32
    by_cases c1 : set.testBit i = true ∧ S.testBit i = false
    · rw [if_pos c1, jn_e, hK, z1z]
      have h2 := sub_le (sub_or hS c1.1)
      have h2p := two16 (p := i) (by omega)
      obtain ⟨R, f1, f2⟩ := hF i hi c1.1
      rw [shl16 i (by omega), nI_or (by omega) (by omega), k_within, nI_toInt (by omega), if_pos ⟨by omega, by show ((S ||| 2 ^ i : Nat) : Int) < 256; omega⟩, z1z, ldI_n (by omega) (by omega), hE i hi c1.1 c1.2, nI_or (by omega) (by omega), f1, cr_s, oB_0]
      cases hcan : canB al set (S ||| 2 ^ i)
      · rw [if_neg (by decide)]
        exact Or.inr ⟨nI (i + 1), ⟨rfl, hstep (fun h => by rw [canB_t.2 h.2] at hcan; cases hcan)⟩, rfl⟩
      · rw [if_pos rfl]
        by_cases e : R = -9
        · rw [if_pos e]
          exact Or.inl ⟨nI i, rfl, Or.inr ⟨i, rfl, ⟨hi, c1.1, c1.2, by rw [f2, decide_eq_true e]⟩, canB_t.1 hcan, h1⟩⟩
        · rw [if_neg e]
          exact Or.inr ⟨nI (i + 1), ⟨rfl, hstep (fun h => by have := h.1.2.2.2; rw [f2, decide_eq_false e] at this; cases this)⟩, rfl⟩
    · rw [if_neg c1, jn_e, hK, z0z]
      exact Or.inr ⟨nI (i + 1), ⟨rfl, hstep (fun h => c1 ⟨h.1.2.1, h.1.2.2.1⟩)⟩, rfl⟩
  · rintro s ⟨rfl, h1⟩ K
    refine ⟨-9, ?_, Or.inl ⟨rfl, fun p hp => h1 p hp.1 hp⟩⟩
    unfold f_X10_next_l3
    rw [show ∀ y z : Option Int32, (if (8 : Int32) ≤ nI 8 then y else z) = y from fun y z => le_t (a := 8) (by omega) (by omega)]
