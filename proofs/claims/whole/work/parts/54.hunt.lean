/-! ===== the hunt: which sets fit ===== -/
def Hd : Type := Nat → Nat → Nat
def Hd.S (h : Hd) : Nat := h 0 0
def Hd.T (h : Hd) : Nat := h 1 0
def Hd.D (h : Hd) : Nat → Nat := h 2
def Hd.P (h : Hd) : Nat → Nat := h 3
def Hd.X (h : Hd) : Nat → Nat := h 4
def Hd.G (h : Hd) : Nat → Nat := h 5
def Hd.W (h : Hd) : Nat → Nat := h 6
def HB (h : Hd) : Prop := (h.S ≤ 20) ∧ (h.T ≤ 20) ∧ (∀ k, h.D k ≤ 20) ∧ (∀ k, h.P k ≤ 7) ∧ (∀ k, h.X k ≤ 9999) ∧ (∀ k, h.G k ≤ 9999) ∧ (∀ k, h.W k = 0 ∨ h.W k = 1)
theorem HB.S {h : Hd} (x : HB h) : h.S ≤ 20 := x.1
theorem HB.T {h : Hd} (x : HB h) : h.T ≤ 20 := x.2.1
theorem HB.D {h : Hd} (x : HB h) : ∀ k, h.D k ≤ 20 := x.2.2.1
theorem HB.P {h : Hd} (x : HB h) : ∀ k, h.P k ≤ 7 := x.2.2.2.1
theorem HB.X {h : Hd} (x : HB h) : ∀ k, h.X k ≤ 9999 := x.2.2.2.2.1
theorem HB.G {h : Hd} (x : HB h) : ∀ k, h.G k ≤ 9999 := x.2.2.2.2.2.1
theorem HB.W {h : Hd} (x : HB h) : ∀ k, h.W k = 0 ∨ h.W k = 1 := x.2.2.2.2.2.2
def HC (σ : Hp) (h : Hd) : Prop := (σ.1 77 1 = nI h.S) ∧ (σ.1 77 4 = nI h.T) ∧ (∀ k, σ.1 78 k = nI (h.D k)) ∧ (∀ k, σ.1 79 k = nI (h.P k)) ∧ (∀ k, σ.1 80 k = nI (h.X k)) ∧ (∀ k, σ.1 81 k = nI (h.G k)) ∧ (∀ k, σ.1 82 k = nI (h.W k))
theorem HC.S {σ : Hp} {h : Hd} (x : HC σ h) : σ.1 77 1 = nI h.S := x.1
theorem HC.T {σ : Hp} {h : Hd} (x : HC σ h) : σ.1 77 4 = nI h.T := x.2.1
theorem HC.D {σ : Hp} {h : Hd} (x : HC σ h) : ∀ k, σ.1 78 k = nI (h.D k) := x.2.2.1
theorem HC.P {σ : Hp} {h : Hd} (x : HC σ h) : ∀ k, σ.1 79 k = nI (h.P k) := x.2.2.2.1
theorem HC.X {σ : Hp} {h : Hd} (x : HC σ h) : ∀ k, σ.1 80 k = nI (h.X k) := x.2.2.2.2.1
theorem HC.G {σ : Hp} {h : Hd} (x : HC σ h) : ∀ k, σ.1 81 k = nI (h.G k) := x.2.2.2.2.2.1
theorem HC.W {σ : Hp} {h : Hd} (x : HC σ h) : ∀ k, σ.1 82 k = nI (h.W k) := x.2.2.2.2.2.2
def HM (τ : Hp) (h : Hd) : Prop := (τ.1 86 75 = nI h.S) ∧ (τ.1 86 76 = nI h.T) ∧ (∀ k, τ.1 143 k = nI (h.D k)) ∧ (∀ k, τ.1 144 k = nI (h.P k)) ∧ (∀ k, τ.1 145 k = nI (h.X k)) ∧ (∀ k, τ.1 146 k = nI (h.G k)) ∧ (∀ k, τ.1 148 k = nI (h.W k))
theorem HM.S {τ : Hp} {h : Hd} (x : HM τ h) : τ.1 86 75 = nI h.S := x.1
theorem HM.T {τ : Hp} {h : Hd} (x : HM τ h) : τ.1 86 76 = nI h.T := x.2.1
theorem HM.D {τ : Hp} {h : Hd} (x : HM τ h) : ∀ k, τ.1 143 k = nI (h.D k) := x.2.2.1
theorem HM.P {τ : Hp} {h : Hd} (x : HM τ h) : ∀ k, τ.1 144 k = nI (h.P k) := x.2.2.2.1
theorem HM.X {τ : Hp} {h : Hd} (x : HM τ h) : ∀ k, τ.1 145 k = nI (h.X k) := x.2.2.2.2.1
theorem HM.G {τ : Hp} {h : Hd} (x : HM τ h) : ∀ k, τ.1 146 k = nI (h.G k) := x.2.2.2.2.2.1
theorem HM.W {τ : Hp} {h : Hd} (x : HM τ h) : ∀ k, τ.1 148 k = nI (h.W k) := x.2.2.2.2.2.2
theorem HC_fr {l : List Nat} {σ σ' : Hp} {h : Hd} (hl : ∀ a, a ∈ [77, 78, 79, 80, 81, 82] → a ∉ l) (hf : fr l σ σ') (hC : HC σ h) : HC σ' h :=
  ⟨by rw [hf 77 (hl _ (by decide))]; exact hC.S, by rw [hf 77 (hl _ (by decide))]; exact hC.T, by rw [hf 78 (hl _ (by decide))]; exact hC.D, by rw [hf 79 (hl _ (by decide))]; exact hC.P, by rw [hf 80 (hl _ (by decide))]; exact hC.X, by rw [hf 81 (hl _ (by decide))]; exact hC.G, by rw [hf 82 (hl _ (by decide))]; exact hC.W⟩
theorem HM_fr {l : List Nat} {σ σ' : Hp} {h : Hd} (hl : ∀ a, a ∈ [86, 143, 144, 145, 146, 148] → a ∉ l) (hf : fr l σ σ') (hC : HM σ h) : HM σ' h :=
  ⟨by rw [hf 86 (hl _ (by decide))]; exact hC.S, by rw [hf 86 (hl _ (by decide))]; exact hC.T, by rw [hf 143 (hl _ (by decide))]; exact hC.D, by rw [hf 144 (hl _ (by decide))]; exact hC.P, by rw [hf 145 (hl _ (by decide))]; exact hC.X, by rw [hf 146 (hl _ (by decide))]; exact hC.G, by rw [hf 148 (hl _ (by decide))]; exact hC.W⟩
def hitN (h : Hd) (i j : Nat) : Bool := decide (h.X j + h.D (h.P j) = h.G i)
def shwN (h : Hd) (i : Nat) : Nat → Nat
  | 0 => 0
  | j + 1 => shwN h i j ||| (if hitN h i j then 2 ^ h.P j else 0)
def mtN (h : Hd) (m i : Nat) : Nat → Bool
  | 0 => false
  | j + 1 => mtN h m i j || (m.testBit (h.P j) && hitN h i j)
def okN (h : Hd) (m : Nat) : Nat → Bool
  | 0 => true
  | i + 1 => okN h m i && (mtN h m i h.S == decide (h.W i = 1))
theorem two8 {p : Nat} (hp : p ≤ 7) : 2 ^ p < 256 := Nat.pow_lt_pow_right (a := 2) (n := 8) (by omega) (by omega)
theorem shwN_lt {h : Hd} (hB : HB h) (i : Nat) : ∀ j, shwN h i j < 256
  | 0 => by unfold shwN; omega
  | j + 1 => by
    unfold shwN
    refine Nat.or_lt_two_pow (n := 8) (shwN_lt hB i j) ?_
    split
    · exact two8 (hB.P j)
    · decide
theorem and_p (m p : Nat) : (m &&& 2 ^ p = 0) ↔ m.testBit p = false := by
  constructor
  · intro e
    have h := congrArg (fun x => x.testBit p) e
    rw [Nat.testBit_and, Nat.testBit_two_pow, decide_eq_true rfl, Bool.and_true, Nat.zero_testBit] at h
    exact h
  · intro e
    apply Nat.eq_of_testBit_eq
    intro k
    rw [Nat.testBit_and, Nat.testBit_two_pow, Nat.zero_testBit]
    by_cases h : p = k
    · rw [← h, e, Bool.false_and]
    · rw [decide_eq_false h, Bool.and_false]
theorem shw_mt (h : Hd) (m i : Nat) : ∀ j, (m &&& shwN h i j = 0) ↔ mtN h m i j = false
  | 0 => by unfold shwN mtN; simp only [Nat.and_zero]
  | j + 1 => by
    unfold shwN mtN
    rw [Nat.and_or_distrib_left, Nat.or_eq_zero_iff, shw_mt h m i j, Bool.or_eq_false_iff]
    refine and_congr_right fun _ => ?_
    cases hitN h i j
    · simp only [Bool.false_eq_true, if_false, Nat.and_zero, Bool.and_false]
    · simp only [if_true, Bool.and_true]
      exact and_p m (h.P j)
theorem okN_f {h : Hd} {m i : Nat} (h1 : okN h m i = false) : ∀ k, okN h m (i + k) = false
  | 0 => h1
  | k + 1 => by
    show (okN h m (i + k) && _) = false
    rw [okN_f h1 k, Bool.false_and]
theorem eq_sub_n {a b c : Nat} (ha : a < 1000000) (hb : b < 1000000) (hc : c < 1000000) : (nI a = nI b - nI c) ↔ a + c = b := by
  constructor
  · intro e
    have := congrArg Int32.toInt e
    rw [subI (by rw [nI_toInt (by omega), nI_toInt (by omega)]; omega) (by rw [nI_toInt (by omega), nI_toInt (by omega)]; omega), nI_toInt (by omega), nI_toInt (by omega), nI_toInt (by omega)] at this
    omega
  · intro e
    rw [pk_sub (by omega)]
    congr 1
    omega
theorem shl8 : ∀ p, p < 8 → ((1 : Int32) <<< (nI p &&& 31)) = nI (2 ^ p) := by decide +kernel
theorem c_shown {h : Hd} {σ : Hp} (hB : HB h) (hC : HC σ h) : ∃ σ', f_X9_findShown σ = some σ' ∧ (∀ i, i < h.T → σ'.1 83 i = nI (shwN h i h.S)) ∧ fr [83] σ σ' := by
  have hT := hB.T
  have hS := hB.S
  refine lp_h (Q := fun r => ∃ σ', r = some σ' ∧ (∀ i, i < h.T → σ'.1 83 i = nI (shwN h i h.S)) ∧ fr [83] σ σ') h.T (fun i ρ => (∀ i', i' < i → ρ.1 83 i' = nI (shwN h i' h.S)) ∧ fr [83] σ ρ) ?_ ?_ (by omega) ⟨fun i hi => absurd hi (by omega), fr_0 _ _⟩
  · rintro i ρ hi ⟨h1, h2⟩ K
    have hC2 := HC_fr (by decide) h2 hC
    unfold f_X9_findShown_l2
    dsimp only
    rw [hC2.T, le_f hi (by omega), stI_n (by omega) (by omega), jn_e]
    refine lp_h (Q := fun r => ∃ σ', ((∀ i', i' < i + 1 → σ'.1 83 i' = nI (shwN h i' h.S)) ∧ fr [83] σ σ') ∧ r = K (nI (i + 1), σ')) h.S (fun j ρ => ((∀ i', i' < i → ρ.1 83 i' = nI (shwN h i' h.S)) ∧ ρ.1 83 i = nI (shwN h i j)) ∧ fr [83] σ ρ) ?_ ?_ (by omega) ⟨⟨fun i' hi' => ?_, ?_⟩, fr_s (k := 83) (by decide) h2⟩
    · rintro j ρ2 hj ⟨⟨h3, h5⟩, h4⟩ K2
      have hC3 := HC_fr (by decide) h4 hC
      have hp := hB.P j
      have hd := hB.D (h.P j)
      have hx := hB.X j
      have hg := hB.G i
      refine ⟨sI ρ2 83 i (nI (shwN h i (j + 1))), ⟨⟨fun i' hi' => ?_, ?_⟩, fr_s (by decide) h4⟩, ?_⟩
      · show upd (ρ2.1 83) i _ i' = _
        rw [pk_un (by omega)]; exact h3 i' hi'
      · show upd (ρ2.1 83) i _ i = _
        rw [pk_us]
      · unfold f_X9_findShown_l19 f_X9_findShown_j61 f_X9_findShown_j82
        dsimp only
        rw [hC3.S, le_f hj (by omega), ldI_n (by omega) (by omega), hC3.P, ldI_n (by omega) (by omega), hC3.X, ldI_n (by omega) (by omega), hC3.G, ldI_n (by omega) (by omega), hC3.D]
        simp only [jn_e, lt_e, eq_sub_n (show h.X j < 1000000 by omega) (show h.G i < 1000000 by omega) (show h.D (h.P j) < 1000000 by omega)]
        unfold shwN
        unfold hitN
        by_cases e : h.X j + h.D (h.P j) = h.G i
        · simp only [if_pos e, decide_eq_true e, if_true, z1z]
          rw [ldI_n (by omega) (by omega), h5, shl8 _ (by omega), nI_1, nI_or (by have := shwN_lt hB i j; omega) (by have := two8 hp; omega), stI_n (by omega) (by omega)]
        · simp only [if_neg e, decide_eq_false e, Bool.false_eq_true, if_false, if_true]
          rw [ldI_n (by omega) (by omega), h5, nI_1, n_0, nI_or (by have := shwN_lt hB i j; omega) (by omega), stI_n (by omega) (by omega)]
    · rintro ρ2 ⟨⟨h3, h5⟩, h4⟩ K2
      have hC3 := HC_fr (by decide) h4 hC
      refine ⟨ρ2, ⟨fun i' hi' => ?_, h4⟩, ?_⟩
      · by_cases e : i' = i
        · rw [e]; exact h5
        · exact h3 i' (by omega)
      · unfold f_X9_findShown_l19 f_X9_findShown_j90
        dsimp only
        rw [hC3.S, le_t (Nat.le_refl _) (by omega), lt_e, nI_1]
    · show upd (ρ.1 83) i _ i' = _
      rw [pk_un (by omega)]; exact h1 i' hi'
    · show upd (ρ.1 83) i _ i = _
      rw [pk_us]; rfl
  · rintro ρ ⟨h1, h2⟩ K
    have hC2 := HC_fr (by decide) h2 hC
    refine ⟨ρ, ?_, h1, h2⟩
    unfold f_X9_findShown_l2
    dsimp only
    rw [hC2.T, le_t (Nat.le_refl _) (by omega)]
def oB (b : Bool) : Int32 := if b then 1 else 0
theorem oB_0 {α : Type} (b : Bool) (x y : α) : (if oB b = 0 then x else y) = if b then y else x := by cases b <;> rfl
theorem oB_W {n : Nat} (hn : n = 0 ∨ n = 1) (b : Bool) : (oB b = nI n) ↔ (b == decide (n = 1)) = true := by
  rcases hn with rfl | rfl <;> cases b <;> decide
theorem c_fits {h : Hd} {σ : Hp} (hB : HB h) (hC : HC σ h) (h83 : ∀ i, i < h.T → σ.1 83 i = nI (shwN h i h.S)) {m : Nat} (hm : m < 256) : f_X9_fits (nI m) σ = some (oB (okN h m h.T)) := by
  have hT := hB.T
  unfold f_X9_fits
  refine lp_e (Q := fun r => r = some (oB (okN h m h.T))) h.T (fun i s => s = nI i ∧ okN h m i = true) ?_ ?_ 0 (Nat.zero_le _) (by omega) ⟨rfl, rfl⟩
  · rintro i s hi ⟨rfl, h1⟩ K
    unfold f_X9_fits_l2 f_X9_fits_j26
    rw [hC.T, le_f hi (by omega), ldI_n (by omega) (by omega), h83 i hi, nI_and (by omega) (by have := shwN_lt hB i h.S; omega), jn_e]
    have e0 : (nI (m &&& shwN h i h.S) = 0) ↔ mtN h m i h.S = false := by
      rw [← shw_mt h m i h.S]
      have hl : m &&& shwN h i h.S ≤ m := Nat.and_le_left
      constructor
      · intro e
        have := congrArg Int32.toInt e
        rw [nI_toInt (by omega), l_0] at this
        omega
      · intro e; rw [e]; rfl
    have e1 : ∀ x y : Option Int32, (if nI (m &&& shwN h i h.S) = 0 then x else y) = if mtN h m i h.S then y else x := fun x y => by
      by_cases e : mtN h m i h.S = false
      · rw [if_pos (e0.2 e), e]; rfl
      · rw [if_neg (fun h => e (e0.1 h)), (Bool.not_eq_false _).mp e]; rfl
    have e2 : ∀ x y : Option Int32, (if oB (mtN h m i h.S) = nI (h.W i) then x else y) = if (mtN h m i h.S == decide (h.W i = 1)) = true then x else y := fun x y => by
      by_cases e : (mtN h m i h.S == decide (h.W i = 1)) = true
      · rw [if_pos ((oB_W (hB.W i) _).2 e), if_pos e]
      · rw [if_neg (fun h1 => e ((oB_W (hB.W i) _).1 h1)), if_neg e]
    have e3 : (if nI (m &&& shwN h i h.S) = 0 then (fun t3 => ldI σ 82 20 (nI i) fun v4 => if t3 = v4 then lt (nI i + (1 : Int32)) fun x5 => K x5 else ckZ (0 : Int32) (some (0 : Int32))) (0 : Int32) else (fun t3 => ldI σ 82 20 (nI i) fun v4 => if t3 = v4 then lt (nI i + (1 : Int32)) fun x5 => K x5 else ckZ (0 : Int32) (some (0 : Int32))) (1 : Int32)) = (if (mtN h m i h.S == decide (h.W i = 1)) = true then K (nI (i + 1)) else some 0) := by
      rw [e1, ← e2]
      dsimp only
      cases mtN h m i h.S
      · rw [if_neg (by decide), ldI_n (by omega) (by omega), hC.W, lt_e, nI_1, ckZ_0]; rfl
      · rw [if_pos rfl, ldI_n (by omega) (by omega), hC.W, lt_e, nI_1, ckZ_0]; rfl
    rw [e3]
    by_cases e : (mtN h m i h.S == decide (h.W i = 1)) = true
    · rw [if_pos e]
      refine Or.inr ⟨nI (i + 1), ⟨rfl, ?_⟩, rfl⟩
      show (okN h m i && _) = true
      rw [h1, e]; rfl
    · rw [if_neg e]
      refine Or.inl ?_
      have h2 : okN h m (i + 1) = false := by
        show (okN h m i && _) = false
        rw [h1, Bool.eq_false_iff.2 e]; rfl
      have h3 := okN_f h2 (h.T - (i + 1))
      rw [show i + 1 + (h.T - (i + 1)) = h.T by omega] at h3
      rw [h3]; rfl
  · rintro s ⟨rfl, h1⟩ K
    unfold f_X9_fits_l2
    rw [hC.T, le_t (Nat.le_refl _) (by omega), h1, ckZ_1]
    rfl
