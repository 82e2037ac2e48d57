/-! ===== the class's reading of a text ===== -/
def PicC (σ0 σ : Hp) (L p : Nat) (acc : List Int32) : Prop := (σ.1 29 1 = nI L ∧ σ.1 29 2 = nI p ∧ σ.1 29 3 = tx (σ0.1 30) L p ∧ σ.1 29 7 = nI acc.length) ∧ (∀ k, k < acc.length → acc[k]? = some (σ.1 31 k)) ∧ fr [29, 31] σ0 σ ∧ ∀ j, j ≠ 2 → j ≠ 3 → j ≠ 7 → σ.1 29 j = σ0.1 29 j
def ResC (σ0 : Hp) (L p : Nat) (acc : List Int32) (x : Nat × Option (List Int32)) (y : Option (Int32 × Hp)) : Prop := (p ≤ x.1 ∧ x.1 ≤ L) ∧ (x.2 = none → ∃ σ' acc', y = some (0, σ') ∧ PicC σ0 σ' L x.1 acc') ∧ ∀ s, x.2 = some s → s.length + p ≤ x.1 ∧ ∃ σ', y = some (1, σ') ∧ PicC σ0 σ' L x.1 (acc ++ s)
theorem res_no {σ0 σ : Hp} {L p q : Nat} {acc acc' : List Int32} (h1 : p ≤ q) (h2 : q ≤ L) (h : PicC σ0 σ L q acc') : ResC σ0 L p acc (q, none) (some (0, σ)) := ⟨⟨h1, h2⟩, fun _ => ⟨σ, acc', rfl, h⟩, fun s e => by cases e⟩
theorem res_so {σ0 σ : Hp} {L p q : Nat} {acc s : List Int32} (h1 : p ≤ q) (h2 : q ≤ L) (hs : s.length + p ≤ q) (h : PicC σ0 σ L q (acc ++ s)) : ResC σ0 L p acc (q, some s) (some (1, σ)) := ⟨⟨h1, h2⟩, fun e => (by cases e), fun s' e => by cases e; exact ⟨hs, σ, rfl, h⟩⟩
theorem rc_go {σ0 σ : Hp} {L p : Nat} {acc : List Int32} (h : PicC σ0 σ L p acc) (hL : L ≤ 40) (hp : p < 1000) : ∃ σ', f_X6_go σ = some σ' ∧ PicC σ0 σ' L (p + 1) acc := by
  obtain ⟨⟨h1, h2, h3, h4⟩, h5, h6, h7⟩ := h
  refine ⟨sI (sI σ 29 2 (nI (p + 1))) 29 3 (tx (σ0.1 30) L (p + 1)), ?_, ⟨h1, rfl, rfl, h4⟩, h5, fr_s (by decide) (fr_s (by decide) h6), fun j j2 j3 j7 => ?_⟩
  · have e30 : σ.1 30 = σ0.1 30 := h6 30 (by decide)
    unfold f_X6_go f_X6_go_j51 f_X6_go_j50
    rw [lt_e, jn_e, jn_e, h2, nI_1, show (sI σ 29 2 (nI (p + 1))).1 29 2 = nI (p + 1) from rfl, show (sI σ 29 2 (nI (p + 1))).1 29 1 = σ.1 29 1 from rfl, h1, if_neg (nI_pos (by omega))]
    unfold tx
    by_cases e : p + 1 < L
    · rw [le_f e (by omega), show ∀ y z : Option Hp, (if (40 : Int32) ≤ nI (p + 1) then y else z) = z from fun y z => le_f (b := p + 1) (a := 40) (by omega) (by omega), ldI_n (by omega) (by omega), show (sI σ 29 2 (nI (p + 1))).1 30 = σ.1 30 from rfl, e30, if_pos e]; rfl
    · rw [le_t (by omega) (by omega), if_neg e]; rfl
  · show upd (upd (σ.1 29) 2 _) 3 _ j = _
    rw [upd_at, if_neg j3, upd_at, if_neg j2]
    exact h7 j j2 j3 j7
theorem rc_add {σ0 σ : Hp} {L p : Nat} {acc : List Int32} (h : PicC σ0 σ L p acc) (ha : acc.length < 40) (c : Int32) : ∃ σ', f_X6_add c σ = some σ' ∧ PicC σ0 σ' L p (acc ++ [c]) := by
  obtain ⟨⟨h1, h2, h3, h4⟩, h5, h6, h7⟩ := h
  refine ⟨sI (sI σ 31 acc.length c) 29 7 (nI (acc.length + 1)), ?_, ⟨h1, h2, h3, ?_⟩, fun k hk => ?_, fr_s (by decide) (fr_s (by decide) h6), fun j j2 j3 j7 => ?_⟩
  · unfold f_X6_add
    rw [h4, show ∀ y z : Option Hp, (if (40 : Int32) ≤ nI acc.length then y else z) = z from fun y z => le_f (b := acc.length) (a := 40) (by omega) (by omega), stI_n (by omega) (by omega), lt_e, show (sI σ 31 acc.length c).1 29 7 = σ.1 29 7 from rfl, h4, nI_1]
  · rw [List.length_append, List.length_singleton]; rfl
  · rw [List.length_append, List.length_singleton] at hk
    show (acc ++ [c])[k]? = some (upd (σ.1 31) acc.length c k)
    rw [upd_at]
    by_cases e : k = acc.length
    · subst e
      rw [if_pos rfl, List.getElem?_append_right (Nat.le_refl _), Nat.sub_self]
      rfl
    · rw [if_neg e, List.getElem?_append_left (by omega)]
      exact h5 k (by omega)
  · show upd (σ.1 29) 7 _ j = _
    rw [upd_at, if_neg j7]
    exact h7 j j2 j3 j7
theorem rc_skip {σ0 σ : Hp} {L p : Nat} {acc : List Int32} (h : PicC σ0 σ L p acc) (hL : L ≤ 40) (hp : p < 1000) (c : Int32) : (tx (σ0.1 30) L p = c → ∃ σ', f_X6_skip c σ = some (1, σ') ∧ PicC σ0 σ' L (p + 1) acc) ∧ (tx (σ0.1 30) L p ≠ c → f_X6_skip c σ = some (0, σ)) := by
  unfold f_X6_skip
  rw [h.1.2.2.1]
  refine ⟨fun e => ?_, fun e => ?_⟩
  · obtain ⟨σ', g1, g2⟩ := rc_go h hL hp
    exact ⟨σ', by rw [if_pos e, g1, cr_s, ckZ_1], g2⟩
  · rw [if_neg e, ckZ_0]
theorem rc_digit {σ0 σ : Hp} {L p : Nat} {acc : List Int32} (h : PicC σ0 σ L p acc) : f_X6_digit σ = some (if 48 ≤ (tx (σ0.1 30) L p).toInt ∧ (tx (σ0.1 30) L p).toInt ≤ 57 then tx (σ0.1 30) L p - 48 else -1) := by
  unfold f_X6_digit f_X6_digit_j29 f_X6_digit_j28
  rw [jn_e, jn_e, h.1.2.2.1]
  generalize tx (σ0.1 30) L p = c
  have e1 : (48 : Int32).toInt = 48 := rfl
  have e2 : (57 : Int32).toInt = 57 := rfl
  simp only [i32_lt, e1, e2]
  by_cases h1 : c.toInt < 48
  · rw [if_pos h1, if_neg (by omega)]
  · by_cases h2 : 57 < c.toInt
    · rw [if_neg h1, if_pos h2, if_neg (by omega)]
    · rw [if_neg h1, if_neg h2, if_pos (by omega)]
theorem rc_num {σ0 : Hp} {L : Nat} {acc : List Int32} (hL : L ≤ 40) : ∀ (kk i p : Nat) (v : Int32) (σ : Hp) (m : Nat), kk + i = 5 → kk < m → p ≤ L → PicC σ0 σ L p acc → ∃ σ', lp (f_X6_number_l17) m (v, nI i, σ) = some ((sNum (σ0.1 30) L kk p v).2, σ') ∧ PicC σ0 σ' L (sNum (σ0.1 30) L kk p v).1 acc ∧ p ≤ (sNum (σ0.1 30) L kk p v).1 ∧ (sNum (σ0.1 30) L kk p v).1 ≤ L
  | kk, i, p, v, σ, 0, _, h, _, _ => absurd h (by omega)
  | 0, i, p, v, σ, m + 1, hi, _, hp, h => by
    refine ⟨σ, ?_, h, Nat.le_refl _, hp⟩
    rw [lp_succ]
    unfold f_X6_number_l17 sNum
    dsimp only
    rw [show ∀ y z : Option (Int32 × Hp), (if (5 : Int32) ≤ nI i then y else z) = y from fun y z => le_t (a := 5) (by omega) (by omega)]
  | kk + 1, i, p, v, σ, m + 1, hi, hm, hp, h => by
    have hd := rc_digit h
    have hF : ∀ K, f_X6_number_l17 K (v, nI i, σ) = if 48 ≤ (tx (σ0.1 30) L p).toInt ∧ (tx (σ0.1 30) L p).toInt ≤ 57 then (cr (f_X6_go σ) fun σ7 => K (v * 10 + (tx (σ0.1 30) L p - 48), nI (i + 1), σ7)) else some (v, σ) := fun K => by
      unfold f_X6_number_l17
      dsimp only
      rw [show ∀ y z : Option (Int32 × Hp), (if (5 : Int32) ≤ nI i then y else z) = z from fun y z => le_f (a := 5) (by omega) (by omega), hd, cr_s, cr_s]
      simp only [lt_e, nI_1]
      by_cases e : 48 ≤ (tx (σ0.1 30) L p).toInt ∧ (tx (σ0.1 30) L p).toInt ≤ 57
      · rw [if_pos e, if_pos e]
        obtain ⟨d, d1, d2⟩ := dig_n e
        rw [d2, if_neg (nI_pos (by omega))]
      · rw [if_neg e, if_neg e, if_pos (by decide)]
    rw [lp_succ, hF]
    unfold sNum
    by_cases e : 48 ≤ (tx (σ0.1 30) L p).toInt ∧ (tx (σ0.1 30) L p).toInt ≤ 57
    · have hpl := dg_lt e
      rw [if_pos e, if_pos e]
      obtain ⟨σ1, g1, g2⟩ := rc_go h hL (by omega)
      rw [g1, cr_s]
      obtain ⟨σ', k1, k2, k3, k4⟩ := rc_num hL kk (i + 1) (p + 1) (v * 10 + (tx (σ0.1 30) L p - 48)) σ1 m (by omega) (by omega) (by omega) g2
      exact ⟨σ', k1, k2, by omega, k4⟩
    · rw [if_neg e, if_neg e]
      exact ⟨σ, rfl, h, Nat.le_refl _, hp⟩
theorem dg_ge {x : Int32} (h : 48 ≤ x.toInt ∧ x.toInt ≤ 57) : (if 0 ≤ x - 48 then True else False) := by
  obtain ⟨d, d1, d2⟩ := dig_n h
  rw [d2, if_pos (nI_pos' (by omega))]
  trivial
theorem c_cmp2 {σ0 σ : Hp} {L p0 p : Nat} {acc : List Int32} (hL : L ≤ 40) (h0 : p0 + 1 ≤ p) (hp : p ≤ L) (ha : acc.length ≤ p0) (h : PicC σ0 σ L p acc) (f : Int32) (w : Int32) : ResC σ0 L p0 acc (sCmp2 (σ0.1 30) L f w p) (f_X6_comparison_j47 f (w, σ)) := by
  unfold f_X6_comparison_j47 sCmp2
  dsimp only
  have hA : f_X6_among 60 61 62 62 62 σ = some (sRel (tx (σ0.1 30) L p)) := by
    unfold f_X6_among f_X6_among_j55 sRel
    rw [jn_e, h.1.2.2.1]
    by_cases e0 : tx (σ0.1 30) L p = 60
    · rw [if_pos e0, if_pos e0]
    rw [if_neg e0, if_neg e0]
    by_cases e1 : tx (σ0.1 30) L p = 61
    · rw [if_pos e1, if_pos e1]
    rw [if_neg e1, if_neg e1]
    by_cases e2 : tx (σ0.1 30) L p = 62
    · rw [if_pos e2, if_pos e2]
    rw [if_neg e2, if_neg e2, if_neg e2, if_neg e2]
  rw [hA, cr_s]
  by_cases e : sRel (tx (σ0.1 30) L p) = -1
  · rw [if_pos e, e, if_neg (by decide), ckZ_0]
    exact res_no (by omega) hp h
  rw [if_neg e]
  obtain ⟨rl, r1, r2, r3⟩ := sRel_n e
  have hpl : p < L := tx_lt (fun e2 => e (by rw [e2]; rfl))
  obtain ⟨σ1, g1, g2⟩ := rc_go h hL (by omega)
  rw [r3, if_pos (nI_pos' (by omega)), g1, cr_s]
  unfold f_X6_number
  have hd := rc_digit g2
  rw [hd, cr_s]
  by_cases e2 : 48 ≤ (tx (σ0.1 30) L (p + 1)).toInt ∧ (tx (σ0.1 30) L (p + 1)).toInt ≤ 57
  · have hpl2 := dg_lt e2
    obtain ⟨d, d1, d2⟩ := dig_n e2
    rw [if_pos e2, if_pos e2, d2, if_pos (nI_pos' (by omega))]
    obtain ⟨σ2, g3, g4⟩ := rc_go g2 hL (by omega)
    rw [g3, cr_s]
    obtain ⟨σ3, k1, k2, k3, k4⟩ := rc_num hL 4 1 (p + 2) (nI d) σ2 FU rfl (by rw [FU_e]; omega) (by omega) g4
    rw [show (1 : Int32) = nI 1 from rfl, k1, cl_s]
    obtain ⟨q', N, n1, n2, n3, n4⟩ := sNum_n (t := σ0.1 30) (L := L) 4 (p + 2) d 10 d1
    rw [n1] at k2 ⊢
    dsimp only at k2 ⊢
    rw [if_pos (nI_pos' (by omega))]
    obtain ⟨σ4, a1, a2⟩ := rc_add k2 (by omega) (((((3 : Int32) ||| (f <<< ((2 : Int32) &&& 31))) ||| (w <<< ((5 : Int32) &&& 31))) ||| (nI rl <<< ((9 : Int32) &&& 31))) ||| (nI N <<< ((11 : Int32) &&& 31)))
    rw [a1, cr_s]
    exact res_so (by omega) (n4 (by omega)) (by rw [List.length_singleton]; omega) a2
  · rw [if_neg e2, if_neg e2, if_neg (by decide), cl_s, if_neg (by decide), ckZ_0]
    exact res_no (by omega) (by omega) g2
theorem c_cmpR {σ0 σ : Hp} {L p : Nat} {acc : List Int32} (hL : L ≤ 40) (hp : p ≤ L) (ha : acc.length ≤ p) (h : PicC σ0 σ L p acc) : ResC σ0 L p acc (sCmp (σ0.1 30) L p) (f_X6_comparison σ) := by
  unfold f_X6_comparison sCmp
  have hA : f_X6_among 114 119 118 112 116 σ = some (sFact (tx (σ0.1 30) L p)) := by
    unfold f_X6_among f_X6_among_j55 sFact
    rw [jn_e, h.1.2.2.1]
    by_cases e0 : tx (σ0.1 30) L p = 114
    · rw [if_pos e0, if_pos e0]
    rw [if_neg e0, if_neg e0]
    by_cases e1 : tx (σ0.1 30) L p = 119
    · rw [if_pos e1, if_pos e1]
    rw [if_neg e1, if_neg e1]
    by_cases e2 : tx (σ0.1 30) L p = 118
    · rw [if_pos e2, if_pos e2]
    rw [if_neg e2, if_neg e2]
    by_cases e3 : tx (σ0.1 30) L p = 112
    · rw [if_pos e3, if_pos e3]
    rw [if_neg e3, if_neg e3]
    by_cases e4 : tx (σ0.1 30) L p = 116
    · rw [if_pos e4, if_pos e4]
    rw [if_neg e4, if_neg e4]
  rw [hA, cr_s]
  by_cases e : sFact (tx (σ0.1 30) L p) = -1
  · rw [if_pos e, e, if_neg (by decide), ckZ_0]
    exact res_no (Nat.le_refl _) hp h
  rw [if_neg e]
  obtain ⟨f, f1, f2, f3⟩ := sFact_n e
  have hpl : p < L := tx_lt (fun e2 => e (by rw [e2]; rfl))
  obtain ⟨σ1, g1, g2⟩ := rc_go h hL (by omega)
  rw [f3, if_pos (nI_pos' (by omega)), g1, cr_s, jn_e]
  by_cases e4 : nI f = (4 : Int32)
  · rw [if_pos e4, if_pos e4, e4]
    exact c_cmp2 hL (Nat.le_refl _) (by omega) ha g2 4 0
  rw [if_neg e4, if_neg e4]
  have hd := rc_digit g2
  rw [hd, cr_s]
  by_cases e2 : 48 ≤ (tx (σ0.1 30) L (p + 1)).toInt ∧ (tx (σ0.1 30) L (p + 1)).toInt ≤ 57
  · have hpl2 := dg_lt e2
    obtain ⟨d, d1, d2⟩ := dig_n e2
    rw [if_pos e2, if_pos e2, d2, if_pos (nI_pos' (by omega))]
    obtain ⟨σ2, g3, g4⟩ := rc_go g2 hL (by omega)
    rw [g3, cr_s]
    exact c_cmp2 hL (by omega) (by omega) ha g4 (nI f) (nI d)
  · rw [if_neg e2, if_neg e2, if_neg (by decide), ckZ_0]
    exact res_no (by omega) (by omega) g2
