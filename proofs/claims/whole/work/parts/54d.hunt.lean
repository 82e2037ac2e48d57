/-! ===== the hunt: answers ===== -/
def bsN (f : Nat → Bool) : Nat → Nat
  | 0 => 0
  | p + 1 => bsN f p ||| (if f p then 2 ^ p else 0)
theorem bsN_lt (f : Nat → Bool) : ∀ p, p ≤ 8 → bsN f p < 256
  | 0, _ => by unfold bsN; omega
  | p + 1, hp => by
    unfold bsN
    refine Nat.or_lt_two_pow (n := 8) (bsN_lt f p (by omega)) ?_
    split
    · exact two8 (by omega)
    · decide
theorem bsN_0 {f : Nat → Bool} (h : ∀ p, f p = false) : ∀ p, bsN f p = 0
  | 0 => rfl
  | p + 1 => by
    show bsN f p ||| (if f p then 2 ^ p else 0) = 0
    rw [bsN_0 h p, h p, if_neg (by decide)]; rfl
theorem bs_s {f : Nat → Bool} {p : Nat} (hp : p < 8) : (nI (bsN f p) ||| (if f p then (1 : Int32) <<< (nI p &&& 31) else 0)) = nI (bsN f (p + 1)) := by
  show _ = nI (bsN f p ||| (if f p then 2 ^ p else 0))
  have h0 := bsN_lt f p (by omega)
  cases f p
  · rw [if_neg (by decide), if_neg (by decide), n_0, nI_or (by omega) (by omega)]
  · rw [if_pos rfl, if_pos rfl, shl8 p hp, nI_or (by omega) (by have := two8 (p := p) (by omega); omega)]
def nxN (c : Nat) (v : Nat → Nat) : Nat → Int32 × Nat
  | 0 => ((-9 : Int32), c)
  | p + 1 => if (nxN c v p).2 ≤ max (v p) (c - v p) then nxN c v p else (nI p, max (v p) (c - v p))
def mxN (c : Nat) (v : Nat → Nat) : Nat → Int32 × Nat
  | 0 => ((-9 : Int32), 1000)
  | p + 1 => if v p = 0 then mxN c v p else if v p = c then mxN c v p else if max (v p) (c - v p) < (mxN c v p).2 then (nI p, max (v p) (c - v p)) else mxN c v p
theorem nx_mx {c : Nat} {v : Nat → Nat} (hc : c ≤ 256) (hv : ∀ p, v p ≤ c) : ∀ p, (mxN c v p).1 = (nxN c v p).1 ∧ (nxN c v p).2 ≤ c ∧ ((mxN c v p).2 = (nxN c v p).2 ∨ ((mxN c v p).2 = 1000 ∧ (nxN c v p).2 = c))
  | 0 => ⟨rfl, Nat.le_refl _, Or.inr ⟨rfl, rfl⟩⟩
  | p + 1 => by
    obtain ⟨h1, h2, h3⟩ := nx_mx hc hv p
    have hp := hv p
    unfold mxN nxN
    by_cases e1 : v p = 0
    · rw [if_pos e1, if_pos (by omega)]; exact ⟨h1, h2, h3⟩
    rw [if_neg e1]
    by_cases e2 : v p = c
    · rw [if_pos e2, if_pos (by omega)]; exact ⟨h1, h2, h3⟩
    rw [if_neg e2]
    by_cases e3 : max (v p) (c - v p) < (mxN c v p).2
    · rw [if_pos e3, if_neg (by omega)]
      exact ⟨rfl, by dsimp only; omega, Or.inl rfl⟩
    · rw [if_neg e3, if_pos (by omega)]; exact ⟨h1, h2, h3⟩
theorem mx_lt {c : Nat} {v : Nat → Nat} (hc : c ≤ 256) (hv : ∀ p, v p ≤ c) (p : Nat) : (mxN c v p).2 ≤ 1000 := by
  obtain ⟨h1, h2, h3⟩ := nx_mx hc hv p
  omega
theorem c_bits {c : Nat} {v : Nat → Nat} (hc : c ≤ 256) (hv : ∀ p, v p ≤ c) {σ : Hp} (h84 : ∀ p, p < 8 → σ.1 84 p = nI (v p)) (a : Int32) : lp (f_X9_found_l27 a (nI c) σ) FU ((0 : Int32), (0 : Int32)) = some (nI (bsN (fun p => decide (v p = (if a = 1 then c else 0)) && decide (0 < c)) 8), σ) := by
  generalize hf : (fun p => decide (v p = (if a = 1 then c else 0)) && decide (0 < c)) = f
  refine lp_d (Q := fun r => r = some (nI (bsN f 8), σ)) 8 (fun p => (nI (bsN f p), nI p)) ?_ ?_ (by omega)
  · intro p hp K
    have hvp := hv p
    have hfp : f p = (decide (v p = (if a = 1 then c else 0)) && decide (0 < c)) := by rw [← hf]
    show f_X9_found_l27 a (nI c) σ K (nI (bsN f p), nI p) = K (nI (bsN f (p + 1)), nI (p + 1))
    rw [← bs_s hp]
    unfold f_X9_found_l27 f_X9_found_j51 f_X9_found_j59 f_X9_found_j78 f_X9_found_j79
    dsimp only
    rw [n_8, le_f hp (by omega), ldI_n (by omega) (by omega), h84 p hp]
    simp only [jn_e, lt_e, nI_1]
    have e1 : ∀ x y : Option (Int32 × Hp), (if a = 1 then (if nI (v p) = nI c then x else y) else (if nI (v p) = 0 then x else y)) = if v p = (if a = 1 then c else 0) then x else y := fun x y => by
      have inj : ∀ q : Nat, q ≤ 256 → ((nI (v p) = nI q) ↔ v p = q) := fun q hq => ⟨fun e => by have := congrArg Int32.toInt e; rw [nI_toInt (by omega), nI_toInt (by omega)] at this; omega, fun e => by rw [e]⟩
      by_cases ha : a = 1
      · simp only [if_pos ha, inj c hc]
      · simp only [if_neg ha, n_0, inj 0 (by omega)]
    rw [e1]
    have e2 : ∀ x y : Option (Int32 × Hp), (if nI c ≤ 0 then x else y) = if 0 < c then y else x := fun x y => by
      by_cases h0 : 0 < c
      · rw [if_pos h0, n_0, le_f h0 (by omega)]
      · rw [if_neg h0, n_0, le_t (by omega) (by omega)]
    simp only [e2]
    rw [hfp]
    by_cases d1 : v p = (if a = 1 then c else 0)
    · simp only [if_pos d1, decide_eq_true d1, Bool.true_and, z1z]
      by_cases d2 : 0 < c
      · simp only [if_pos d2, decide_eq_true d2, if_true]
      · simp only [if_neg d2, decide_eq_false d2, Bool.false_eq_true, if_false]
    · simp only [if_neg d1, decide_eq_false d1, Bool.false_and, Bool.false_eq_true, if_false, if_true]
  · intro K
    unfold f_X9_found_l27
    dsimp only
    rw [n_8, le_t (Nat.le_refl _) (by omega)]
theorem c_next {c : Nat} {v : Nat → Nat} (hc : c ≤ 256) (hv : ∀ p, v p ≤ c) {σ : Hp} (h84 : ∀ p, p < 8 → σ.1 84 p = nI (v p)) : f_X9_nextPlace (nI c) σ = some (nxN c v 8).1 := by
  unfold f_X9_nextPlace
  refine lp_d (Q := fun r => r = some (nxN c v 8).1) 8 (fun p => ((nxN c v p).1, nI (nxN c v p).2, nI p)) ?_ ?_ (by omega)
  · intro p hp K
    have hvp := hv p
    have hg := (nx_mx hc hv p).2.1
    unfold f_X9_nextPlace_l8 f_X9_nextPlace_j48
    dsimp only
    rw [n_8, le_f hp (by omega), ldI_n (by omega) (by omega), ldI_n (by omega) (by omega), h84 p hp, pk_sub hvp]
    have e1 : (if nI (v p) < nI (c - v p) then nI (c - v p) else nI (v p)) = nI (max (v p) (c - v p)) := by
      by_cases h0 : v p < c - v p
      · rw [if_pos (Int32.lt_iff_toInt_lt.2 (by rw [nI_toInt (by omega), nI_toInt (by omega)]; omega))]
        congr 1; omega
      · rw [if_neg (fun hh => absurd (Int32.lt_iff_toInt_lt.1 hh) (by rw [nI_toInt (by omega), nI_toInt (by omega)]; omega))]
        congr 1; omega
    rw [lt_e, e1, jn_e]
    simp only [lt_e, nI_1]
    show _ = K ((if (nxN c v p).2 ≤ max (v p) (c - v p) then nxN c v p else (nI p, max (v p) (c - v p))).1, nI (if (nxN c v p).2 ≤ max (v p) (c - v p) then nxN c v p else (nI p, max (v p) (c - v p))).2, nI (p + 1))
    by_cases h0 : (nxN c v p).2 ≤ max (v p) (c - v p)
    · rw [le_t h0 (by omega), if_pos h0]
    · rw [le_f (by omega) (by omega), if_neg h0]
  · intro K
    unfold f_X9_nextPlace_l8
    dsimp only
    rw [n_8, le_t (Nat.le_refl _) (by omega)]
theorem m_n1 {c : Nat} {v : Nat → Nat} (hc : c ≤ 256) (hv : ∀ p, v p ≤ c) {τ : Hp} (h147 : ∀ p, p < 8 → τ.1 147 p = nI (v p)) {p : Nat} (hp : p < 8) (A B x y : Int32) (K : Int32 × Int32 × Int32 × Int32 × Int32 → Option (Int32 × Hp)) : f_X12_hunt_j222 (nI c, τ) (A, B, (mxN c v p).1, nI (mxN c v p).2, nI p) K x y (nI (max (v p) (c - v p))) = K (x, y, (mxN c v (p + 1)).1, nI (mxN c v (p + 1)).2, nI (p + 1)) := by
  have hvp := hv p
  have hg := mx_lt hc hv p
  have inj : ∀ q : Nat, q ≤ 256 → ((nI (v p) = nI q) ↔ v p = q) := fun q hq => ⟨fun e => by have := congrArg Int32.toInt e; rw [nI_toInt (by omega), nI_toInt (by omega)] at this; omega, fun e => by rw [e]⟩
  have inj0 : (nI (v p) = 0) ↔ v p = 0 := inj 0 (by omega)
  have e3 : (nI (max (v p) (c - v p)) < nI (mxN c v p).2) ↔ max (v p) (c - v p) < (mxN c v p).2 := by
    rw [Int32.lt_iff_toInt_lt, nI_toInt (by omega), nI_toInt (by omega)]
    omega
  unfold f_X12_hunt_j222 f_X12_hunt_j263
  dsimp only
  rw [ldI_n (by omega) (by omega), h147 p hp, jn_e, ldI_n (by omega) (by omega), h147 p hp]
  simp only [lt_e, nI_1, inj0, inj c hc, e3]
  show _ = K (x, y, (if v p = 0 then mxN c v p else if v p = c then mxN c v p else if max (v p) (c - v p) < (mxN c v p).2 then (nI p, max (v p) (c - v p)) else mxN c v p).1, nI (if v p = 0 then mxN c v p else if v p = c then mxN c v p else if max (v p) (c - v p) < (mxN c v p).2 then (nI p, max (v p) (c - v p)) else mxN c v p).2, nI (p + 1))
  by_cases e1 : v p = 0
  · simp only [if_pos e1]
  by_cases e2 : v p = c
  · simp only [if_neg e1, if_pos e2]
  by_cases e4 : max (v p) (c - v p) < (mxN c v p).2
  · simp only [if_neg e1, if_neg e2, if_pos e4]
  · simp only [if_neg e1, if_neg e2, if_neg e4]
theorem m_n2 {c : Nat} {v : Nat → Nat} (hc : c ≤ 256) (hv : ∀ p, v p ≤ c) {τ : Hp} (h147 : ∀ p, p < 8 → τ.1 147 p = nI (v p)) {p : Nat} (hp : p < 8) (A B x y : Int32) (K : Int32 × Int32 × Int32 × Int32 × Int32 → Option (Int32 × Hp)) : f_X12_hunt_j181 (nI c, τ) (A, B, (mxN c v p).1, nI (mxN c v p).2, nI p) K x y = K (x, B ||| y, (mxN c v (p + 1)).1, nI (mxN c v (p + 1)).2, nI (p + 1)) := by
  have hvp := hv p
  unfold f_X12_hunt_j181
  dsimp only
  rw [lt_e, ldI_n (by omega) (by omega), ldI_n (by omega) (by omega), h147 p hp, jn_e, pk_sub hvp, ldI_n (by omega) (by omega), ldI_n (by omega) (by omega), h147 p hp, pk_sub hvp]
  rw [← m_n1 hc hv h147 hp A B x (B ||| y) K]
  by_cases h0 : v p ≤ c - v p
  · rw [le_t h0 (by omega), show max (v p) (c - v p) = c - v p by omega]
  · rw [le_f (by omega) (by omega), show max (v p) (c - v p) = v p by omega]
theorem m_n3 {c : Nat} {v : Nat → Nat} (hc : c ≤ 256) (hv : ∀ p, v p ≤ c) {τ : Hp} (h147 : ∀ p, p < 8 → τ.1 147 p = nI (v p)) {p : Nat} (hp : p < 8) (A B t : Int32) (K : Int32 × Int32 × Int32 × Int32 × Int32 → Option (Int32 × Hp)) : f_X12_hunt_j159 (nI c, τ) (A, B, (mxN c v p).1, nI (mxN c v p).2, nI p) K t = K (A ||| t, B ||| (if v p = 0 then (1 : Int32) <<< (nI p &&& 31) else 0), (mxN c v (p + 1)).1, nI (mxN c v (p + 1)).2, nI (p + 1)) := by
  have hvp := hv p
  have inj0 : (nI (v p) = 0) ↔ v p = 0 := ⟨fun e => by have := congrArg Int32.toInt e; rw [nI_toInt (by omega), l_0] at this; omega, fun e => by rw [e]; rfl⟩
  unfold f_X12_hunt_j159
  dsimp only
  rw [lt_e, ldI_n (by omega) (by omega), h147 p hp, jn_e, m_n2 hc hv h147 hp, m_n2 hc hv h147 hp]
  by_cases e : v p = 0
  · rw [if_pos (inj0.2 e), if_pos e]
  · rw [if_neg (fun h => e (inj0.1 h)), if_neg e]
theorem m_next {c : Nat} {v : Nat → Nat} (hc : c ≤ 256) (hv : ∀ p, v p ≤ c) (h0 : 0 < c) {τ : Hp} (h147 : ∀ p, p < 8 → τ.1 147 p = nI (v p)) (k : Int32 × Int32 × Int32 → Option (Int32 × Hp)) : lp (f_X12_hunt_l128 (nI c, τ) k) FU ((0 : Int32), (0 : Int32), (-9 : Int32), (1000 : Int32), (0 : Int32)) = k (nI (bsN (fun p => decide (v p = c)) 8), nI (bsN (fun p => decide (v p = 0)) 8), (mxN c v 8).1) := by
  refine lp_d (Q := fun r => r = k (nI (bsN (fun p => decide (v p = c)) 8), nI (bsN (fun p => decide (v p = 0)) 8), (mxN c v 8).1)) 8 (fun p => (nI (bsN (fun p => decide (v p = c)) p), nI (bsN (fun p => decide (v p = 0)) p), (mxN c v p).1, nI (mxN c v p).2, nI p)) ?_ ?_ (by omega)
  · intro p hp K
    have hvp := hv p
    have hg := mx_lt hc hv p
    have inj : ∀ q : Nat, q ≤ 256 → ((nI (v p) = nI q) ↔ v p = q) := fun q hq => ⟨fun e => by have := congrArg Int32.toInt e; rw [nI_toInt (by omega), nI_toInt (by omega)] at this; omega, fun e => by rw [e]⟩
    have inj0 : (nI (v p) = 0) ↔ v p = 0 := inj 0 (by omega)
    show f_X12_hunt_l128 (nI c, τ) k K _ = K (nI (bsN (fun p => decide (v p = c)) (p + 1)), nI (bsN (fun p => decide (v p = 0)) (p + 1)), (mxN c v (p + 1)).1, nI (mxN c v (p + 1)).2, nI (p + 1))
    rw [← bs_s hp, ← bs_s hp]
    unfold f_X12_hunt_l128
    dsimp only
    rw [n_8, le_f hp (by omega), show ∀ x y : Option (Int32 × Hp), (if nI c ≤ 0 then x else y) = y from fun x y => le_f (b := 0) h0 (by omega), ldI_n (by omega) (by omega), h147 p hp, jn_e, m_n3 hc hv h147 hp, m_n3 hc hv h147 hp]
    simp only [inj c hc]
    by_cases e1 : v p = c
    · by_cases e2 : v p = 0
      · simp only [if_pos e1, if_pos e2, decide_eq_true e1, decide_eq_true e2, if_true]
      · simp only [if_pos e1, if_neg e2, decide_eq_true e1, decide_eq_false e2, if_true, Bool.false_eq_true, if_false]
    · by_cases e2 : v p = 0
      · simp only [if_neg e1, if_pos e2, decide_eq_false e1, decide_eq_true e2, if_true, Bool.false_eq_true, if_false]
      · simp only [if_neg e1, if_neg e2, decide_eq_false e1, decide_eq_false e2, Bool.false_eq_true, if_false]
  · intro K
    unfold f_X12_hunt_l128
    dsimp only
    rw [n_8, le_t (Nat.le_refl _) (by omega)]
theorem hunt_of {n : Nat} {σ τ : Hp} (h : RR n σ τ) : ∃ d : Hd, HB d ∧ HC σ d ∧ HM τ d := by
  obtain ⟨hF, hP, hG, hA, hT, hU, hg, hc, hs, hd, ho⟩ := h
  obtain ⟨⟨a1, a2, a3, a4⟩, ⟨b1, b2, b3, b4, b5⟩, c1, c2, c3, c4, c5⟩ := hs
  refine ⟨fun k j => if k = 0 then (σ.1 77 1).toInt.toNat else if k = 1 then (σ.1 77 4).toInt.toNat else (σ.1 (76 + k) j).toInt.toNat, ⟨?_, ?_, ?_, ?_, ?_, ?_, ?_⟩, ⟨?_, ?_, ?_, ?_, ?_, ?_, ?_⟩, ⟨?_, ?_, ?_, ?_, ?_, ?_, ?_⟩⟩
  · show (σ.1 77 1).toInt.toNat ≤ 20; have := a3.2; omega
  · show (σ.1 77 4).toInt.toNat ≤ 20; have := a4.2; omega
  · intro k; show (σ.1 78 k).toInt.toNat ≤ 20; have := (c1 k).2; omega
  · intro k; show (σ.1 79 k).toInt.toNat ≤ 7; have := (c2 k).2; omega
  · intro k; show (σ.1 80 k).toInt.toNat ≤ 9999; have := (c3 k).2; omega
  · intro k; show (σ.1 81 k).toInt.toNat ≤ 9999; have := (c4 k).2; omega
  · intro k; show (σ.1 82 k).toInt.toNat = 0 ∨ (σ.1 82 k).toInt.toNat = 1
    rcases c5 k with e | e <;> rw [e]
    · exact Or.inl rfl
    · exact Or.inr rfl
  · exact n_of a3.1
  · exact n_of a4.1
  · exact fun k => n_of (c1 k).1
  · exact fun k => n_of (c2 k).1
  · exact fun k => n_of (c3 k).1
  · exact fun k => n_of (c4 k).1
  · exact fun k => n_of (by rcases c5 k with e | e <;> rw [e] <;> decide)
  · rw [← a1]; exact n_of a3.1
  · rw [← a2]; exact n_of a4.1
  · exact fun k => by rw [← b1]; exact n_of (c1 k).1
  · exact fun k => by rw [← b2]; exact n_of (c2 k).1
  · exact fun k => by rw [← b3]; exact n_of (c3 k).1
  · exact fun k => by rw [← b4]; exact n_of (c4 k).1
  · exact fun k => by rw [← b5]; exact n_of (by rcases c5 k with e | e <;> rw [e] <;> decide)
theorem m_zero8 (KK : Hp → Option (Int32 × Hp)) (τ : Hp) : ∃ τ', lp (f_X12_hunt_l23 KK) FU ((0 : Int32), τ) = KK τ' ∧ (∀ p, p < 8 → τ'.1 147 p = 0) ∧ fr [147] τ τ' := by
  refine lp_h (Q := fun r => ∃ τ', r = KK τ' ∧ (∀ p, p < 8 → τ'.1 147 p = 0) ∧ fr [147] τ τ') 8 (fun i ρ => (∀ p, p < i → ρ.1 147 p = 0) ∧ fr [147] τ ρ) ?_ ?_ (by omega) ⟨fun p hp => absurd hp (by omega), fr_0 _ _⟩
  · rintro i ρ hi ⟨h1, h2⟩ K
    refine ⟨sI ρ 147 i 0, ⟨fun p hp => ?_, fr_s (by decide) h2⟩, ?_⟩
    · show upd (ρ.1 147) i 0 p = 0
      by_cases e : p = i
      · rw [e, pk_us]
      · rw [pk_un e]; exact h1 p (by omega)
    · unfold f_X12_hunt_l23
      dsimp only
      rw [n_8, le_f hi (by omega), stI_n (by omega) (by omega), lt_e, nI_1]
  · rintro ρ ⟨h1, h2⟩ K
    refine ⟨ρ, ?_, h1, h2⟩
    unfold f_X12_hunt_l23
    dsimp only
    rw [n_8, le_t (Nat.le_refl _) (by omega)]
