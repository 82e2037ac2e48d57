/-! ===== a tick, on rows of naturals; pl: what the plant was told, by the class's cells ===== -/
def gvN (pl : Nat → Nat → Nat) (r : Nat) : Nat := pl 5 (pl 3 r * 10 + pl 4 r)
def shN (pl : Nat → Nat → Nat) (w : Nat → Nat) (q : Nat) : Nat := w q * gvN pl (q / 3) / 1000
def wO (pl : Nat → Nat → Nat) (w : Nat → Nat) (q : Nat) : Nat → Nat := fun k => if k < q then w k - shN pl w k else w k
def aO (pl : Nat → Nat → Nat) (w a : Nat → Nat) (q : Nat) : Nat → Nat := fun k => if k < q then a k + shN pl w k else a k
def aL (pl : Nat → Nat → Nat) (a : Nat → Nat) (q : Nat) : Nat → Nat := fun k => if k < q then a k + pl 6 k else a k
def dL (pl : Nat → Nat → Nat) (d : Nat → Nat) : Nat → Nat → Nat
  | 0 => d
  | q + 1 => un (dL pl d q) (q % 3) (dL pl d q (q % 3) + pl 6 q)
def mvN (s i j : Nat) (a : Nat → Nat) : Nat → Nat := un (un a i (a i - min (a i) s)) j (un a i (a i - min (a i) s) j + min (a i) s)
def fA (pl : Nat → Nat → Nat) (b : Nat → Nat) (p g : Nat) : (Nat → Nat) → Nat → Nat := mvN (b (3 * pl 7 p + g) * pl 9 p / (100 * pl 2 (pl 7 p))) (3 * pl 7 p + g) (3 * pl 8 p + g)
def fB (pl : Nat → Nat → Nat) (b : Nat → Nat) (p g : Nat) : (Nat → Nat) → Nat → Nat := mvN (b (3 * pl 8 p + g) * pl 9 p / (100 * pl 2 (pl 8 p))) (3 * pl 8 p + g) (3 * pl 7 p + g)
/-- from one room to another, gas by gas -/
def mvs (sh : Nat → Nat) (f t : Nat) (a : Nat → Nat) : Nat → Nat → Nat
  | 0 => a
  | g + 1 => mvN (sh g) (3 * f + g) (3 * t + g) (mvs sh f t a g)
def fAs (pl : Nat → Nat → Nat) (b : Nat → Nat) (p : Nat) (a : Nat → Nat) (g : Nat) : Nat → Nat := mvs (fun g => b (3 * pl 7 p + g) * pl 9 p / (100 * pl 2 (pl 7 p))) (pl 7 p) (pl 8 p) a g
def fBs (pl : Nat → Nat → Nat) (b : Nat → Nat) (p : Nat) (a : Nat → Nat) (g : Nat) : Nat → Nat := mvs (fun g => b (3 * pl 8 p + g) * pl 9 p / (100 * pl 2 (pl 8 p))) (pl 8 p) (pl 7 p) a g
/-- all open pipes, by numbers -/
def fls (pl : Nat → Nat → Nat) (b a : Nat → Nat) : Nat → Nat → Nat
  | 0 => a
  | p + 1 => if (pl 1 10).testBit p then fBs pl b p (fAs pl b p (fls pl b a p) 3) 3 else fls pl b a p
def hdN (t : Nat → Nat) (p : Nat) : Nat := t (3 * p) + t (3 * p + 1) + t (3 * p + 2)
/-- what a pump takes of a gas -/
def tkN (pl : Nat → Nat → Nat) (p g : Nat) (x : (Nat → Nat) × (Nat → Nat)) : Nat :=
  if 0 < pl 12 p then min (x.1 (3 * pl 10 p + g) * pl 11 (3 * p + g) / (100 * pl 2 (pl 10 p))) (pl 12 p - hdN x.2 p) else x.1 (3 * pl 10 p + g) * pl 11 (3 * p + g) / (100 * pl 2 (pl 10 p))
def drN (pl : Nat → Nat → Nat) (p g : Nat) (x : (Nat → Nat) × (Nat → Nat)) : (Nat → Nat) × (Nat → Nat) :=
  (un x.1 (3 * pl 10 p + g) (x.1 (3 * pl 10 p + g) - tkN pl p g x), un x.2 (3 * p + g) (x.2 (3 * p + g) + tkN pl p g x))
def drs (pl : Nat → Nat → Nat) (p : Nat) (x : (Nat → Nat) × (Nat → Nat)) : Nat → (Nat → Nat) × (Nat → Nat)
  | 0 => x
  | g + 1 => drN pl p g (drs pl p x g)
def sks (pl : Nat → Nat → Nat) (x : (Nat → Nat) × (Nat → Nat)) : Nat → (Nat → Nat) × (Nat → Nat)
  | 0 => x
  | p + 1 => if (pl 1 15).testBit p then drs pl p (sks pl x p) 3 else sks pl x p
def gbN (pl : Nat → Nat → Nat) (p g : Nat) (x : (Nat → Nat) × (Nat → Nat)) : (Nat → Nat) × (Nat → Nat) :=
  (un x.1 (3 * pl 10 p + g) (x.1 (3 * pl 10 p + g) + (x.2 (3 * p + g) + 9) / 10), un x.2 (3 * p + g) (x.2 (3 * p + g) - (x.2 (3 * p + g) + 9) / 10))
def gbs (pl : Nat → Nat → Nat) (p : Nat) (x : (Nat → Nat) × (Nat → Nat)) : Nat → (Nat → Nat) × (Nat → Nat)
  | 0 => x
  | g + 1 => gbN pl p g (gbs pl p x g)
/-- traps that are warmed give back; the mask of those that are -/
def bks (pl : Nat → Nat → Nat) (x : ((Nat → Nat) × (Nat → Nat)) × Nat) : Nat → ((Nat → Nat) × (Nat → Nat)) × Nat
  | 0 => x
  | p + 1 => if (bks pl x p).2.testBit p then (gbs pl p (bks pl x p).1 3, if hdN (gbs pl p (bks pl x p).1 3).2 p = 0 then (bks pl x p).2 - 2 ^ p else (bks pl x p).2) else bks pl x p
abbrev GS : Type := ((Nat → Nat) × (Nat → Nat)) × (Nat → Nat) × (Nat → Nat) × Nat
/-- a tick: (in rooms, taken), on walls, told, mask of the warmed -/
def nps (pl : Nat → Nat → Nat) (x : GS) : GS :=
  let a1 := aL pl (aO pl x.2.1 x.1.1 (3 * pl 1 0)) (3 * pl 1 0)
  let y := bks pl (sks pl (fls pl a1 a1 (pl 1 6), x.1.2) (pl 1 11), x.2.2.2) (pl 1 11)
  (y.1, wO pl x.2.1 (3 * pl 1 0), dL pl x.2.2.1 (3 * pl 1 0), y.2)
def PB (pl : Nat → Nat → Nat) : Prop :=
  (pl 1 0 ≤ 5 ∧ pl 1 6 ≤ 12 ∧ pl 1 11 ≤ 8 ∧ pl 1 10 < 2 ^ 12 ∧ pl 1 15 < 2 ^ 8) ∧ (∀ k, k < pl 1 0 → 1 ≤ pl 2 k ∧ pl 2 k ≤ 99) ∧ (∀ k, pl 3 k ≤ 3) ∧ (∀ k, pl 4 k ≤ 9) ∧ (∀ k, pl 5 k ≤ 500) ∧ (∀ k, pl 6 k ≤ 999) ∧
  (∀ k, k < pl 1 6 → pl 7 k < pl 1 0 ∧ pl 8 k < pl 1 0 ∧ pl 7 k ≠ pl 8 k ∧ 1 ≤ pl 9 k ∧ pl 9 k ≤ 9) ∧ (∀ k, k < pl 1 11 → pl 10 k < pl 1 0) ∧ (∀ k, pl 11 k ≤ 9) ∧ (∀ k, pl 12 k ≤ 99999)
def PC (σ : Hp) (pl : Nat → Nat → Nat) : Prop :=
  (σ.1 1 0 = nI (pl 1 0) ∧ σ.1 1 6 = nI (pl 1 6) ∧ σ.1 1 11 = nI (pl 1 11) ∧ σ.1 1 10 = nI (pl 1 10) ∧ σ.1 1 15 = nI (pl 1 15)) ∧
  (∀ k, k < pl 1 0 → σ.1 2 k = nI (pl 2 k)) ∧ (∀ k, σ.1 3 k = nI (pl 3 k)) ∧ (∀ k, σ.1 4 k = nI (pl 4 k)) ∧ (∀ k, σ.1 5 k = nI (pl 5 k)) ∧ (∀ k, σ.1 6 k = nI (pl 6 k)) ∧
  (∀ k, k < pl 1 6 → σ.1 7 k = nI (pl 7 k)) ∧ (∀ k, k < pl 1 6 → σ.1 8 k = nI (pl 8 k)) ∧ (∀ k, k < pl 1 6 → σ.1 9 k = nI (pl 9 k)) ∧ (∀ k, k < pl 1 11 → σ.1 10 k = nI (pl 10 k)) ∧ (∀ k, σ.1 11 k = nI (pl 11 k)) ∧ (∀ k, σ.1 12 k = nI (pl 12 k))
theorem PC_fr {l : List Nat} {σ σ' : Hp} {pl : Nat → Nat → Nat} (hl : ∀ a, a ∈ l → 13 ≤ a) (h : fr l σ σ') (hP : PC σ pl) : PC σ' pl := by
  have e : ∀ a, a < 13 → σ'.1 a = σ.1 a := fun a ha => h a (fun h1 => by have := hl a h1; omega)
  unfold PC
  rw [e 1 (by omega), e 2 (by omega), e 3 (by omega), e 4 (by omega), e 5 (by omega), e 6 (by omega), e 7 (by omega), e 8 (by omega), e 9 (by omega), e 10 (by omega), e 11 (by omega), e 12 (by omega)]
  exact hP
theorem wO_un {pl : Nat → Nat → Nat} {w : Nat → Nat} {q : Nat} : un (wO pl w q) q (w q - shN pl w q) = wO pl w (q + 1) := by
  funext k
  unfold un wO
  by_cases h : k = q
  · subst h; rw [if_pos rfl, if_pos (by omega)]
  · rw [if_neg h]
    by_cases h2 : k < q
    · rw [if_pos h2, if_pos (by omega)]
    · rw [if_neg h2, if_neg (by omega)]
theorem aO_un {pl : Nat → Nat → Nat} {w a : Nat → Nat} {q : Nat} : un (aO pl w a q) q (a q + shN pl w q) = aO pl w a (q + 1) := by
  funext k
  unfold un aO
  by_cases h : k = q
  · subst h; rw [if_pos rfl, if_pos (by omega)]
  · rw [if_neg h]
    by_cases h2 : k < q
    · rw [if_pos h2, if_pos (by omega)]
    · rw [if_neg h2, if_neg (by omega)]
theorem aL_un {pl : Nat → Nat → Nat} {a : Nat → Nat} {q : Nat} : un (aL pl a q) q (a q + pl 6 q) = aL pl a (q + 1) := by
  funext k
  unfold un aL
  by_cases h : k = q
  · subst h; rw [if_pos rfl, if_pos (by omega)]
  · rw [if_neg h]
    by_cases h2 : k < q
    · rw [if_pos h2, if_pos (by omega)]
    · rw [if_neg h2, if_neg (by omega)]
theorem wO_at {pl : Nat → Nat → Nat} {w : Nat → Nat} {q : Nat} : wO pl w q q = w q := if_neg (by omega)
theorem aO_at {pl : Nat → Nat → Nat} {w a : Nat → Nat} {q : Nat} : aO pl w a q q = a q := if_neg (by omega)
theorem aL_at {pl : Nat → Nat → Nat} {a : Nat → Nat} {q : Nat} : aL pl a q q = a q := if_neg (by omega)
theorem wO_0 {pl : Nat → Nat → Nat} {w : Nat → Nat} : wO pl w 0 = w := funext fun k => if_neg (by omega)
theorem aO_0 {pl : Nat → Nat → Nat} {w a : Nat → Nat} : aO pl w a 0 = a := funext fun k => if_neg (by omega)
theorem aL_0 {pl : Nat → Nat → Nat} {a : Nat → Nat} : aL pl a 0 = a := funext fun k => if_neg (by omega)
theorem shN_le {pl : Nat → Nat → Nat} (hB : PB pl) (w : Nat → Nat) (q : Nat) : shN pl w q ≤ w q := by
  have h : gvN pl (q / 3) ≤ 500 := hB.2.2.2.2.1 _
  unfold shN
  have h2 : w q * gvN pl (q / 3) ≤ w q * 500 := Nat.mul_le_mul_left _ h
  omega
