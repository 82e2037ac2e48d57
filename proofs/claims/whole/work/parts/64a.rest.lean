/-! ===== at rest: the class ===== -/
theorem c_join {σ : Hp} {M : Nat} (hM : M < 32) : ∃ σ', f_X7_join (nI M) σ = some σ' ∧ fr [56] σ σ' ∧ ∀ r, r < 5 → σ'.1 56 r = if M.testBit r = true then nI M else σ.1 56 r := by
  unfold f_X7_join
  refine lp_h (Q := fun y => ∃ σ' : Hp, y = some σ' ∧ fr [56] σ σ' ∧ ∀ r, r < 5 → σ'.1 56 r = if M.testBit r = true then nI M else σ.1 56 r) 5 (fun i ρ => fr [56] σ ρ ∧ ∀ r, r < 5 → ρ.1 56 r = if r < i ∧ M.testBit r = true then nI M else σ.1 56 r) ?_ ?_ (by omega) ⟨fr_0 _ _, fun r _ => by rw [if_neg (by omega)]⟩
  · rintro i ρ hi ⟨h1, h2⟩ K
    have hK : ∀ ρ', f_X7_join_j23 (nI i, ρ) K ρ' = K (nI (i + 1), ρ') := fun ρ' => by
      unfold f_X7_join_j23
      rw [lt_e, nI_1]
    by_cases hb : M.testBit i = true
    · refine ⟨sI ρ 56 i (nI M), ⟨fr_s (by decide) h1, fun r hr => ?_⟩, ?_⟩
      · show upd (ρ.1 56) i (nI M) r = _
        rw [upd_at]
        by_cases e : r = i
        · rw [if_pos e, if_pos ⟨by omega, by rw [e]; exact hb⟩]
        · rw [if_neg e, h2 r hr]
          by_cases c : r < i ∧ M.testBit r = true
          · rw [if_pos c, if_pos ⟨by omega, c.2⟩]
          · rw [if_neg c, if_neg (fun g => c ⟨by omega, g.2⟩)]
      · unfold f_X7_join_l2
        dsimp only
        rw [show ∀ y z : Option Hp, (if (5 : Int32) ≤ nI i then y else z) = z from fun y z => le_f (a := 5) (by omega) (by omega), jn_e, bit1 (by omega) (by omega), if_pos hb, stI_n (by omega) (by omega), hK]
    · refine ⟨ρ, ⟨h1, fun r hr => ?_⟩, ?_⟩
      · rw [h2 r hr]
        by_cases c : r < i ∧ M.testBit r = true
        · rw [if_pos c, if_pos ⟨by omega, c.2⟩]
        · rw [if_neg c, if_neg (fun g => c ⟨by
            rcases Nat.lt_or_ge r i with g2 | g2
            · exact g2
            · have : r = i := by omega
              rw [this] at g
              exact absurd g.2 hb, g.2⟩)]
      · unfold f_X7_join_l2
        dsimp only
        rw [show ∀ y z : Option Hp, (if (5 : Int32) ≤ nI i then y else z) = z from fun y z => le_f (a := 5) (by omega) (by omega), jn_e, bit1 (by omega) (by omega), if_neg hb, hK]
  · rintro ρ ⟨h1, h2⟩ K
    refine ⟨ρ, ?_, h1, fun r hr => ?_⟩
    · unfold f_X7_join_l2
      dsimp only
      rw [show ∀ y z : Option Hp, (if (5 : Int32) ≤ nI 5 then y else z) = y from fun y z => le_t (a := 5) (Nat.le_refl _) (by omega)]
    · rw [h2 r hr]
      by_cases c : M.testBit r = true
      · rw [if_pos ⟨hr, c⟩, if_pos c]
      · rw [if_neg (fun g => c g.2), if_neg c]
theorem c_reached {pl : Nat → Nat → Nat} (hB : PB pl) {σ : Hp} (hC : PC σ pl) : ∃ σ', f_X7_findReached σ = some σ' ∧ fr [56] σ σ' ∧ ∀ r, r < 5 → σ'.1 56 r = nI (rc pl r) := by
  have hn := hB.1.1
  have hnp := hB.1.2.1
  have hom : pl 1 10 < 2 ^ 12 := hB.1.2.2.2.1
  unfold f_X7_findReached
  rw [jn_e]
  refine lp_h (Q := fun y => ∃ σ' : Hp, y = some σ' ∧ fr [56] σ σ' ∧ ∀ r, r < 5 → σ'.1 56 r = nI (rc pl r)) 5 (fun i ρ => fr [56] σ ρ ∧ ∀ r, r < i → ρ.1 56 r = nI (2 ^ r)) ?_ ?_ (by omega) ⟨fr_0 _ _, fun r hr => absurd hr (by omega)⟩
  · rintro i ρ hi ⟨h1, h2⟩ K
    refine ⟨sI ρ 56 i (nI (2 ^ i)), ⟨fr_s (by decide) h1, fun r hr => ?_⟩, ?_⟩
    · show upd (ρ.1 56) i _ r = _
      rw [upd_at]
      by_cases e : r = i
      · rw [if_pos e, e]
      · rw [if_neg e]; exact h2 r (by omega)
    · unfold f_X7_findReached_l2
      dsimp only
      rw [show ∀ y z : Option Hp, (if (5 : Int32) ≤ nI i then y else z) = z from fun y z => le_f (a := 5) (by omega) (by omega), shl16 i (by omega), stI_n (by omega) (by omega), lt_e, nI_1]
  · rintro ρ ⟨h1, h2⟩ K
    unfold f_X7_findReached_l2
    dsimp only
    rw [show ∀ y z : Option Hp, (if (5 : Int32) ≤ nI 5 then y else z) = y from fun y z => le_t (a := 5) (Nat.le_refl _) (by omega)]
    unfold f_X7_findReached_j22
    refine lp_h (Q := fun y => ∃ σ' : Hp, y = some σ' ∧ fr [56] σ σ' ∧ ∀ r, r < 5 → σ'.1 56 r = nI (rc pl r)) (pl 1 6) (fun p ξ => fr [56] σ ξ ∧ ∀ r, r < 5 → ξ.1 56 r = nI (rcN pl p r)) ?_ ?_ (by omega) ⟨h1, fun r hr => h2 r hr⟩
    · rintro p ξ hp ⟨g1, g2⟩ K2
      obtain ⟨b1, b2, b3, b4, b5⟩ := hB.2.2.2.2.2.2.1 p hp
      have hC' := PC_fr (l := [56]) (by intro a ha; rw [List.mem_singleton] at ha; omega) g1 hC
      have e6 : ξ.1 1 6 = nI (pl 1 6) := hC'.1.2.1
      have e10 : ξ.1 1 10 = nI (pl 1 10) := hC'.1.2.2.2.1
      have e7 : ξ.1 7 p = nI (pl 7 p) := hC'.2.2.2.2.2.2.1 p hp
      have e8 : ξ.1 8 p = nI (pl 8 p) := hC'.2.2.2.2.2.2.2.1 p hp
      have hK : ∀ ρ', f_X7_findReached_j83 (nI p, ξ) K2 ρ' = K2 (nI (p + 1), ρ') := fun ρ' => by
        unfold f_X7_findReached_j83
        rw [lt_e, nI_1]
      obtain ⟨k1, k2, k3⟩ := rc_ok hB p (by omega)
      have hU : rcN pl p (pl 7 p) ||| rcN pl p (pl 8 p) < 32 := Nat.or_lt_two_pow (n := 5) (k1 _ (by omega)) (k1 _ (by omega))
      have hF : f_X7_findReached_l24 K2 (nI p, ξ) = if opn pl p = true then (cr (f_X7_join (nI (rcN pl p (pl 7 p) ||| rcN pl p (pl 8 p))) ξ) fun σ9 => K2 (nI (p + 1), σ9)) else K2 (nI (p + 1), ξ) := by
        have k7 := k1 (pl 7 p) (by omega)
        have k8 := k1 (pl 8 p) (by omega)
        unfold f_X7_findReached_l24
        dsimp only
        rw [e6, le_f hp (by omega), jn_e, e10, bit1 (by omega) (by omega), ldI_n (by omega) (by omega), e7, ldI_n (by omega) (by omega), g2 _ (by omega), ldI_n (by omega) (by omega), e8, ldI_n (by omega) (by omega), g2 _ (by omega), nI_or (by omega) (by omega), hK]
        simp only [hK]
        rfl
      rw [hF]
      by_cases ho : opn pl p = true
      · rw [if_pos ho]
        obtain ⟨ξ', j1, j2, j3⟩ := c_join (σ := ξ) hU
        refine ⟨ξ', ⟨fr_t g1 j2, fun r hr => ?_⟩, by rw [j1, cr_s]⟩
        rw [j3 r hr]
        by_cases c : (rcN pl p (pl 7 p) ||| rcN pl p (pl 8 p)).testBit r = true
        · rw [if_pos c, rc_t ho c]
        · rw [if_neg c, rc_f c]; exact g2 r hr
      · rw [if_neg ho]
        exact ⟨ξ, ⟨g1, fun r hr => by rw [rc_n ho]; exact g2 r hr⟩, rfl⟩
    · rintro ξ ⟨g1, g2⟩ K2
      have hC' := PC_fr (l := [56]) (by intro a ha; rw [List.mem_singleton] at ha; omega) g1 hC
      have e6 : ξ.1 1 6 = nI (pl 1 6) := hC'.1.2.1
      refine ⟨ξ, ?_, g1, g2⟩
      unfold f_X7_findReached_l24
      dsimp only
      rw [e6, le_t (Nat.le_refl _) (by omega)]
/-! speeds -/
def spP (pl : Nat → Nat → Nat) (g r : Nat) : Nat → Nat
  | 0 => 0
  | p + 1 => spP pl g r p + (if (pl 1 15).testBit p = true ∧ pl 10 p = r then pl 11 (3 * p + g) else 0)
def spO (os ov : Nat → Nat) (S r : Nat) : Nat → Nat
  | 0 => 0
  | k + 1 => spO os ov S r k + (if S.testBit k = true ∧ os k = r then ov k else 0)
/-- what all pump at a room -/
def spA (pl : Nat → Nat → Nat) (g : Nat) (os ov : Nat → Nat) (no S r : Nat) : Nat := spP pl g r (pl 1 11) + spO os ov S r no
theorem ite_pt5 {P : Prop} [Decidable P] {s : Nat} (x : Nat) : (if P ∧ s = 0 then x else 0) + (if P ∧ s = 1 then x else 0) + (if P ∧ s = 2 then x else 0) + (if P ∧ s = 3 then x else 0) + (if P ∧ s = 4 then x else 0) ≤ x := by
  by_cases h : P
  · simp only [h, true_and]
    by_cases h0 : s = 0
    · rw [if_pos h0, if_neg (by omega), if_neg (by omega), if_neg (by omega), if_neg (by omega)]; omega
    · rw [if_neg h0]
      by_cases h1 : s = 1
      · rw [if_pos h1, if_neg (by omega), if_neg (by omega), if_neg (by omega)]; omega
      · rw [if_neg h1]
        by_cases h2 : s = 2
        · rw [if_pos h2, if_neg (by omega), if_neg (by omega)]; omega
        · rw [if_neg h2]
          by_cases h3 : s = 3
          · rw [if_pos h3, if_neg (by omega)]; omega
          · rw [if_neg h3]
            split <;> omega
  · simp only [h, false_and, if_false]; omega
theorem spP_sum {pl : Nat → Nat → Nat} (hB : PB pl) (g : Nat) : ∀ p, spP pl g 0 p + spP pl g 1 p + spP pl g 2 p + spP pl g 3 p + spP pl g 4 p ≤ 9 * p
  | 0 => Nat.le_refl _
  | p + 1 => by
    have ih := spP_sum hB g p
    have h1 := ite_pt5 (P := (pl 1 15).testBit p = true) (s := pl 10 p) (pl 11 (3 * p + g))
    have h2 := hB.2.2.2.2.2.2.2.2.1 (3 * p + g)
    show spP pl g 0 p + _ + (spP pl g 1 p + _) + (spP pl g 2 p + _) + (spP pl g 3 p + _) + (spP pl g 4 p + _) ≤ _
    omega
theorem spO_sum {os ov : Nat → Nat} (S : Nat) : ∀ k, (∀ j, j < k → ov j ≤ 9) → spO os ov S 0 k + spO os ov S 1 k + spO os ov S 2 k + spO os ov S 3 k + spO os ov S 4 k ≤ 9 * k
  | 0, _ => Nat.le_refl _
  | k + 1, h => by
    have ih := spO_sum (os := os) S k (fun j hj => h j (by omega))
    have h1 := ite_pt5 (P := S.testBit k = true) (s := os k) (ov k)
    have h2 := h k (by omega)
    show spO os ov S 0 k + _ + (spO os ov S 1 k + _) + (spO os ov S 2 k + _) + (spO os ov S 3 k + _) + (spO os ov S 4 k + _) ≤ _
    omega
theorem spA_sum {pl : Nat → Nat → Nat} (hB : PB pl) {g : Nat} {os ov : Nat → Nat} {no S : Nat} (hno : no ≤ 6) (hov : ∀ j, j < no → ov j ≤ 9) : spA pl g os ov no S 0 + spA pl g os ov no S 1 + spA pl g os ov no S 2 + spA pl g os ov no S 3 + spA pl g os ov no S 4 ≤ 126 := by
  have h1 := spP_sum hB g (pl 1 11)
  have h2 := spO_sum (os := os) S no hov
  have h3 := hB.1.2.2.1
  unfold spA
  omega
theorem sp_one {f : Nat → Nat} (h : f 0 + f 1 + f 2 + f 3 + f 4 ≤ 126) {r : Nat} (hr : r < 5) : f r ≤ 126 := by
  rcases (show r = 0 ∨ r = 1 ∨ r = 2 ∨ r = 3 ∨ r = 4 by omega) with rfl | rfl | rfl | rfl | rfl <;> omega
theorem spP_le {pl : Nat → Nat → Nat} (hB : PB pl) (g : Nat) {r p : Nat} (hr : r < 5) (hp : p ≤ 8) : spP pl g r p ≤ 72 := by
  have := spP_sum hB g p
  rcases (show r = 0 ∨ r = 1 ∨ r = 2 ∨ r = 3 ∨ r = 4 by omega) with rfl | rfl | rfl | rfl | rfl <;> omega
theorem spO_le {os ov : Nat → Nat} {S r k : Nat} (h : ∀ j, j < k → ov j ≤ 9) (hr : r < 5) (hk : k ≤ 6) : spO os ov S r k ≤ 54 := by
  have := spO_sum (os := os) S k h
  rcases (show r = 0 ∨ r = 1 ∨ r = 2 ∨ r = 3 ∨ r = 4 by omega) with rfl | rfl | rfl | rfl | rfl <;> omega
/-- the offers, in the class -/
def OC (σ : Hp) (n no : Nat) (os ov oc : Nat → Nat) : Prop := (σ.1 54 6 = nI no ∧ no ≤ 6) ∧ ∀ k, k < no → (σ.1 60 k = nI (os k) ∧ os k < n) ∧ (σ.1 61 k = nI (ov k) ∧ 1 ≤ ov k ∧ ov k ≤ 9) ∧ (σ.1 62 k = nI (oc k) ∧ oc k ≤ 999)
theorem OC_fr {σ σ' : Hp} {n no : Nat} {os ov oc : Nat → Nat} {l : List Nat} (hl : ∀ a, a ∈ [54, 60, 61, 62] → a ∉ l) (h : fr l σ σ') (hO : OC σ n no os ov oc) : OC σ' n no os ov oc := by
  unfold OC
  rw [h 54 (hl 54 (by decide)), h 60 (hl 60 (by decide)), h 61 (hl 61 (by decide)), h 62 (hl 62 (by decide))]
  exact hO
theorem bit_mul {m k x : Nat} (hm : m < 2147483648) (hk : k < 31) : ((nI m >>> (nI k &&& 31)) &&& (1 : Int32)) * nI x = nI (if m.testBit k = true then x else 0) := by
  rw [bitC hm hk]
  by_cases h : m.testBit k = true
  · rw [if_pos h, if_pos h, show (1 : Int32) = nI 1 from rfl, pk_mul, Nat.one_mul]
  · rw [if_neg h, if_neg h, show (0 : Int32) = nI 0 from rfl, pk_mul, Nat.zero_mul]
theorem c_speeds {pl : Nat → Nat → Nat} (hB : PB pl) {σ : Hp} (hC : PC σ pl) {no : Nat} {os ov oc : Nat → Nat} (hO : OC σ (pl 1 0) no os ov oc) {g S : Nat} (hg : g < 3) (hS : S < 64) : ∃ σ', f_X7_findSpeeds (nI g) (nI S) σ = some σ' ∧ fr [55] σ σ' ∧ ∀ r, r < 5 → σ'.1 55 r = nI (spA pl g os ov no S r) := by
  have hn := hB.1.1
  have hnp := hB.1.2.2.1
  have hom : pl 1 15 < 2 ^ 8 := hB.1.2.2.2.2
  have hno := hO.1.2
  have hov : ∀ j, j < no → ov j ≤ 9 := fun j hj => (hO.2 j hj).2.1.2.2
  obtain ⟨σ1, f1, f2, f3⟩ := fill_e 55 5 (by omega) 0 σ
  unfold f_X7_findSpeeds
  rw [show ∀ ξ : Hp, f_J7_fill_53178 55 5 0 ξ = f_J7_fill_53178 55 5 (0 : Int32) ξ from fun _ => rfl, f1, cr_s, jn_e]
  refine lp_h (Q := fun y => ∃ σ' : Hp, y = some σ' ∧ fr [55] σ σ' ∧ ∀ r, r < 5 → σ'.1 55 r = nI (spA pl g os ov no S r)) (pl 1 11) (fun p ξ => fr [55] σ ξ ∧ ∀ r, r < 5 → ξ.1 55 r = nI (spP pl g r p)) ?_ ?_ (by omega) ⟨f3, fun r hr => f2 r hr⟩
  · rintro p ξ hp ⟨g1, g2⟩ K
    have hC' := PC_fr (l := [55]) (by intro a ha; rw [List.mem_singleton] at ha; omega) g1 hC
    have e11 : ξ.1 1 11 = nI (pl 1 11) := hC'.1.2.2.1
    have e15 : ξ.1 1 15 = nI (pl 1 15) := hC'.1.2.2.2.2
    have e10 : ξ.1 10 p = nI (pl 10 p) := hC'.2.2.2.2.2.2.2.2.2.1 p hp
    have b10 := hB.2.2.2.2.2.2.2.1 p hp
    have e12 : ξ.1 11 (3 * p + g) = nI (pl 11 (3 * p + g)) := hC'.2.2.2.2.2.2.2.2.2.2.1 (3 * p + g)
    refine ⟨sI ξ 55 (pl 10 p) (nI (spP pl g (pl 10 p) p + (if (pl 1 15).testBit p = true then pl 11 (3 * p + g) else 0))), ⟨fr_s (by decide) g1, fun r hr => ?_⟩, ?_⟩
    · show upd (ξ.1 55) (pl 10 p) _ r = nI (spP pl g r p + _)
      rw [upd_at]
      by_cases e : r = pl 10 p
      · rw [if_pos e, ← e]
        congr 2
        by_cases c : (pl 1 15).testBit p = true
        · rw [if_pos c, if_pos ⟨c, rfl⟩]
        · rw [if_neg c, if_neg (fun h => c h.1)]
      · rw [if_neg e, g2 r hr, if_neg (fun h => e h.2.symm), Nat.add_zero]
    · unfold f_X7_findSpeeds_l10
      dsimp only
      rw [e11, le_f hp (by omega), show (3 : Int32) = nI 3 from rfl, pk_mul, nI_add, Nat.mul_comm p 3, ldI_n (by omega) (by omega), e12, ldI_n (by omega) (by omega), e10, ldI_n (by omega) (by omega), g2 _ (by omega), e15, bit_mul (by omega) (by omega), nI_add, stI_n (by omega) (by omega), lt_e, nI_1]
  · rintro ξ ⟨g1, g2⟩ K
    have hC' := PC_fr (l := [55]) (by intro a ha; rw [List.mem_singleton] at ha; omega) g1 hC
    have e11 : ξ.1 1 11 = nI (pl 1 11) := hC'.1.2.2.1
    unfold f_X7_findSpeeds_l10
    dsimp only
    rw [e11, le_t (Nat.le_refl _) (by omega)]
    unfold f_X7_findSpeeds_j73
    refine lp_h (Q := fun y => ∃ σ' : Hp, y = some σ' ∧ fr [55] σ σ' ∧ ∀ r, r < 5 → σ'.1 55 r = nI (spA pl g os ov no S r)) no (fun k ζ => fr [55] σ ζ ∧ ∀ r, r < 5 → ζ.1 55 r = nI (spP pl g r (pl 1 11) + spO os ov S r k)) ?_ ?_ (by omega) ⟨g1, fun r hr => g2 r hr⟩
    · rintro k ζ hk ⟨k1, k2⟩ K2
      have hO' := OC_fr (l := [55]) (by decide) k1 hO
      obtain ⟨⟨o1, o2⟩, ⟨o3, o4, o5⟩, -⟩ := hO'.2 k hk
      refine ⟨sI ζ 55 (os k) (nI (spP pl g (os k) (pl 1 11) + spO os ov S (os k) k + (if S.testBit k = true then ov k else 0))), ⟨fr_s (by decide) k1, fun r hr => ?_⟩, ?_⟩
      · show upd (ζ.1 55) (os k) _ r = nI (_ + (spO os ov S r k + _))
        rw [upd_at]
        by_cases e : r = os k
        · rw [if_pos e, ← e, Nat.add_assoc]
          congr 3
          by_cases c : S.testBit k = true
          · rw [if_pos c, if_pos ⟨c, rfl⟩]
          · rw [if_neg c, if_neg (fun h => c h.1)]
        · rw [if_neg e, k2 r hr, if_neg (fun h => e h.2.symm), Nat.add_zero]
      · unfold f_X7_findSpeeds_l75
        dsimp only
        rw [hO'.1.1, le_f hk (by omega), ldI_n (by omega) (by omega), o1, ldI_n (by omega) (by omega), k2 _ (by omega), ldI_n (by omega) (by omega), o3, bit_mul (by omega) (by omega), nI_add, stI_n (by omega) (by omega), lt_e, nI_1]
    · rintro ζ ⟨k1, k2⟩ K2
      have hO' := OC_fr (l := [55]) (by decide) k1 hO
      refine ⟨ζ, ?_, k1, k2⟩
      unfold f_X7_findSpeeds_l75
      dsimp only
      rw [hO'.1.1, le_t (Nat.le_refl _) (by omega)]
theorem c_closed {pl : Nat → Nat → Nat} (hB : PB pl) {σ : Hp} {sp : Nat → Nat} (h56 : ∀ r, r < 5 → σ.1 56 r = nI (rc pl r)) (h55 : ∀ r, r < 5 → σ.1 55 r = nI (sp r)) (hsp : ∀ r, r < 5 → sp r ≤ 126) {r : Nat} (hr : r < 5) : f_X7_isClosed (nI r) σ = some (oB (cld pl sp r)) := by
  have hrc := rc_lt hB hr
  unfold f_X7_isClosed
  refine lp_e (Q := fun y => y = some (oB (cld pl sp r))) 5 (fun i s => s = nI i ∧ clF (rc pl r) sp i = true) ?_ ?_ 0 (by omega) (by omega) ⟨rfl, rfl⟩
  · rintro i s hi ⟨rfl, h1⟩ K
    have hs := hsp i hi
    have hF : f_X7_isClosed_l2 (nI r) σ K (nI i) = if (rc pl r).testBit i = true then (if 0 < sp i then some 0 else K (nI (i + 1))) else K (nI (i + 1)) := by
      unfold f_X7_isClosed_l2 f_X7_isClosed_j32
      rw [show ∀ y z : Option Int32, (if (5 : Int32) ≤ nI i then y else z) = z from fun y z => le_f (a := 5) (by omega) (by omega), ldI_n (by omega) (by omega), h56 r hr, jn_e, bit1 (by omega) (by omega), ldI_n (by omega) (by omega), h55 i hi, lt_e, nI_1, ckZ_0]
      by_cases c : 0 < sp i
      · rw [if_pos c, show ∀ y z : Option Int32, (if nI (sp i) ≤ (0 : Int32) then y else z) = z from fun y z => le_f (b := 0) c (by omega)]
      · rw [if_neg c, show ∀ y z : Option Int32, (if nI (sp i) ≤ (0 : Int32) then y else z) = y from fun y z => le_t (b := 0) (by omega) (by omega)]
    rw [hF]
    have hstep : clF (rc pl r) sp (i + 1) = (clF (rc pl r) sp i && !((rc pl r).testBit i && decide (0 < sp i))) := rfl
    by_cases c1 : (rc pl r).testBit i = true
    · rw [if_pos c1]
      by_cases c2 : 0 < sp i
      · rw [if_pos c2]
        left
        have : cld pl sp r = false := by
          cases e : cld pl sp r
          · rfl
          · have := (cld_iff (sp := sp) hB r).1 e i hi c1
            omega
        rw [this]; rfl
      · rw [if_neg c2]
        exact Or.inr ⟨nI (i + 1), ⟨rfl, by rw [hstep, h1, decide_eq_false c2, Bool.and_false]; rfl⟩, rfl⟩
    · rw [if_neg c1]
      exact Or.inr ⟨nI (i + 1), ⟨rfl, by rw [hstep, h1, Bool.eq_false_iff.2 c1, Bool.false_and]; rfl⟩, rfl⟩
  · rintro s ⟨rfl, h1⟩ K
    unfold f_X7_isClosed_l2
    rw [show ∀ y z : Option Int32, (if (5 : Int32) ≤ nI 5 then y else z) = y from fun y z => le_t (a := 5) (Nat.le_refl _) (by omega), ckZ_1]
    have : cld pl sp r = true := h1
    rw [this]; rfl
