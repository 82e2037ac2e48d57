/-! ===== the model's reading of a text ===== -/
def PicM (τ0 τ : Hp) (p : Nat) (w : List Nat) : Prop := (τ.1 86 39 = nI p ∧ τ.1 86 40 = nI w.length) ∧ StW (τ.1 118) w ∧ fr [86, 118] τ0 τ ∧ ∀ j, j ≠ 39 → j ≠ 40 → τ.1 86 j = τ0.1 86 j
def cs : List Nat → List Nat
  | [] => []
  | c :: w => if c = 1 then cs w else c :: w
/-- how the reading ends -/
def Qm (τ0 : Hp) (r : Int32) (q : Nat) (y : Option (Int32 × Hp)) : Prop := ∃ τ', y = some (r, τ') ∧ τ'.1 86 39 = nI q ∧ fr [86, 118] τ0 τ' ∧ ∀ j, j ≠ 39 → j ≠ 40 → τ'.1 86 j = τ0.1 86 j
theorem Qm_of {τ0 τ : Hp} {p : Nat} {w : List Nat} (h : PicM τ0 τ p w) (r : Int32) : Qm τ0 r p (some (r, τ)) := ⟨τ, rfl, h.1.1, h.2.2.1, h.2.2.2⟩
theorem PicM_p {τ0 τ : Hp} {p : Nat} {w : List Nat} (h : PicM τ0 τ p w) (q : Nat) : PicM τ0 (sI τ 86 39 (nI q)) q w := by
  refine ⟨⟨rfl, h.1.2⟩, h.2.1, fr_s (by decide) h.2.2.1, fun j h1 h2 => ?_⟩
  show upd (τ.1 86) 39 _ j = _
  rw [upd_at, if_neg h1]
  exact h.2.2.2 j h1 h2
theorem PicM_pop {τ0 τ : Hp} {p c : Nat} {w : List Nat} (h : PicM τ0 τ p (c :: w)) : PicM τ0 (sI τ 86 40 (nI w.length)) p w := by
  refine ⟨⟨h.1.1, rfl⟩, h.2.1.2.2, fr_s (by decide) h.2.2.1, fun j h1 h2 => ?_⟩
  show upd (τ.1 86) 40 _ j = _
  rw [upd_at, if_neg h2]
  exact h.2.2.2 j h1 h2
theorem PicM_push {τ0 τ : Hp} {p c : Nat} {w : List Nat} (hc : c ≤ 9) (h : PicM τ0 τ p w) : PicM τ0 (sI (sI τ 118 w.length (nI c)) 86 40 (nI (w.length + 1))) p (c :: w) := by
  refine ⟨⟨h.1.1, rfl⟩, ⟨?_, hc, ?_⟩, fr_s (by decide) (fr_s (by decide) h.2.2.1), fun j h1 h2 => ?_⟩
  · show upd (τ.1 118) w.length (nI c) w.length = _
    exact pk_us
  · exact StW_up w (Nat.le_refl _) h.2.1
  · show upd (τ.1 86) 40 _ j = _
    rw [upd_at, if_neg h2]
    exact h.2.2.2 j h1 h2
theorem pm_sign' {τ0 τ : Hp} {L p : Nat} (e37 : τ.1 86 37 = nI L) (e39 : τ.1 86 39 = nI p) (e115 : τ.1 115 = τ0.1 115) (hL40 : L ≤ 40) (hp : p < 1000) : f_X12_sign τ = some (tx (τ0.1 115) L p) := by
  unfold f_X12_sign f_X12_sign_j24 tx
  rw [jn_e, e37, e39]
  by_cases e : p < L
  · rw [if_pos e, le_f e (by omega), ldI_n (by omega) (by omega), e115]
  · rw [if_neg e, le_t (by omega) (by omega)]
theorem pm_sign {τ0 τ : Hp} {L p : Nat} {w : List Nat} (h : PicM τ0 τ p w) (hL : τ0.1 86 37 = nI L) (hL40 : L ≤ 40) (hp : p < 1000) : f_X12_sign τ = some (tx (τ0.1 115) L p) :=
  pm_sign' ((h.2.2.2 37 (by omega) (by omega)).trans hL) h.1.1 (h.2.2.1 115 (by decide)) hL40 hp
theorem pm_digit {τ0 τ : Hp} {L p : Nat} {w : List Nat} (h : PicM τ0 τ p w) (hL : τ0.1 86 37 = nI L) (hL40 : L ≤ 40) (hp : p < 1000) : f_X12_digit τ = some (if 48 ≤ (tx (τ0.1 115) L p).toInt ∧ (tx (τ0.1 115) L p).toInt ≤ 57 then (1, sI τ 86 39 (nI (p + 1))) else (0, τ)) := by
  unfold f_X12_digit
  rw [pm_sign h hL hL40 hp, cr_s, m_isDigit, cr_s]
  by_cases e : 48 ≤ (tx (τ0.1 115) L p).toInt ∧ (tx (τ0.1 115) L p).toInt ≤ 57
  · rw [if_pos e, if_pos e, z1z, lt_e, ckZ_1, h.1.1, nI_1]
  · rw [if_neg e, if_neg e, z0z, ckZ_0]
theorem pm_num {τ0 : Hp} {L : Nat} (hL : τ0.1 86 37 = nI L) (hL40 : L ≤ 40) {w : List Nat} : ∀ (kk i p : Nat) (v : Int32) (τ : Hp) (m : Nat), kk + i = 5 → kk < m → p ≤ L → PicM τ0 τ p w → ∃ τ', lp (f_X12_compares_l112) m (nI i, τ) = some (1, τ') ∧ PicM τ0 τ' (sNum (τ0.1 115) L kk p v).1 w ∧ p ≤ (sNum (τ0.1 115) L kk p v).1 ∧ (sNum (τ0.1 115) L kk p v).1 ≤ L
  | kk, i, p, v, τ, 0, _, h, _, _ => absurd h (by omega)
  | 0, i, p, v, τ, m + 1, hi, _, hp, h => by
    refine ⟨τ, ?_, h, Nat.le_refl _, hp⟩
    rw [lp_succ]
    unfold f_X12_compares_l112
    dsimp only
    rw [show ∀ y z : Option (Int32 × Hp), (if (5 : Int32) ≤ nI i then y else z) = y from fun y z => le_t (a := 5) (by omega) (by omega), ckZ_1]
  | kk + 1, i, p, v, τ, m + 1, hi, hm, hp, h => by
    have hS := pm_sign h hL hL40 (by omega)
    have hF : ∀ K, f_X12_compares_l112 K (nI i, τ) = if 48 ≤ (tx (τ0.1 115) L p).toInt ∧ (tx (τ0.1 115) L p).toInt ≤ 57 then K (nI (i + 1), sI τ 86 39 (nI (p + 1))) else some (1, τ) := fun K => by
      unfold f_X12_compares_l112
      dsimp only
      rw [show ∀ y z : Option (Int32 × Hp), (if (5 : Int32) ≤ nI i then y else z) = z from fun y z => le_f (a := 5) (by omega) (by omega), hS, cr_s, m_isDigit, cr_s, h.1.1]
      simp only [lt_e, nI_1, ckZ_1]
      by_cases e : 48 ≤ (tx (τ0.1 115) L p).toInt ∧ (tx (τ0.1 115) L p).toInt ≤ 57
      · rw [if_pos e, if_pos e, z1z]
      · rw [if_neg e, if_neg e, z0z]
    rw [lp_succ, hF]
    unfold sNum
    by_cases e : 48 ≤ (tx (τ0.1 115) L p).toInt ∧ (tx (τ0.1 115) L p).toInt ≤ 57
    · have hpl := dg_lt e
      rw [if_pos e, if_pos e]
      obtain ⟨τ', k1, k2, k3, k4⟩ := pm_num hL hL40 kk (i + 1) (p + 1) (v * 10 + (tx (τ0.1 115) L p - 48)) _ m (by omega) (by omega) (by omega) (PicM_p h (p + 1))
      exact ⟨τ', k1, k2, by omega, k4⟩
    · rw [if_neg e, if_neg e]
      exact ⟨τ, rfl, h, Nat.le_refl _, hp⟩
def rO (o : Option (List Int32)) : Int32 := match o with | none => 0 | some _ => 1
theorem pm_cmp2 {τ0 τ : Hp} {L p : Nat} (hL : τ0.1 86 37 = nI L) (hL40 : L ≤ 40) {w : List Nat} (hp : p ≤ L) (h : PicM τ0 τ p w) (f v : Int32) : ∃ τ', f_X12_compares_j62 τ = some (rO (sCmp2 (τ0.1 115) L f v p).2, τ') ∧ PicM τ0 τ' (sCmp2 (τ0.1 115) L f v p).1 w ∧ p ≤ (sCmp2 (τ0.1 115) L f v p).1 ∧ (sCmp2 (τ0.1 115) L f v p).1 ≤ L := by
  have hS := pm_sign h hL hL40 (by omega)
  have hj : p < L → ∃ τ', f_X12_compares_j91 τ () = some (if 48 ≤ (tx (τ0.1 115) L (p + 1)).toInt ∧ (tx (τ0.1 115) L (p + 1)).toInt ≤ 57 then 1 else 0, τ') ∧ PicM τ0 τ' (if 48 ≤ (tx (τ0.1 115) L (p + 1)).toInt ∧ (tx (τ0.1 115) L (p + 1)).toInt ≤ 57 then (sNum (τ0.1 115) L 4 (p + 2) (tx (τ0.1 115) L (p + 1) - 48)).1 else p + 1) w ∧ p ≤ (if 48 ≤ (tx (τ0.1 115) L (p + 1)).toInt ∧ (tx (τ0.1 115) L (p + 1)).toInt ≤ 57 then (sNum (τ0.1 115) L 4 (p + 2) (tx (τ0.1 115) L (p + 1) - 48)).1 else p + 1) ∧ (if 48 ≤ (tx (τ0.1 115) L (p + 1)).toInt ∧ (tx (τ0.1 115) L (p + 1)).toInt ≤ 57 then (sNum (τ0.1 115) L 4 (p + 2) (tx (τ0.1 115) L (p + 1) - 48)).1 else p + 1) ≤ L := fun hpl => by
    unfold f_X12_compares_j91
    rw [lt_e, h.1.1, nI_1, pm_digit (PicM_p h (p + 1)) hL hL40 (by omega)]
    by_cases e : 48 ≤ (tx (τ0.1 115) L (p + 1)).toInt ∧ (tx (τ0.1 115) L (p + 1)).toInt ≤ 57
    · have hpl2 := dg_lt e
      simp only [if_pos e]
      rw [cl_s, z1z]
      obtain ⟨τ', k1, k2, k3, k4⟩ := pm_num hL hL40 4 1 (p + 2) (tx (τ0.1 115) L (p + 1) - 48) _ FU rfl (by rw [FU_e]; omega) (by omega) (PicM_p (PicM_p h (p + 1)) (p + 2))
      exact ⟨τ', k1, k2, by omega, k4⟩
    · simp only [if_neg e]
      rw [cl_s, z0z, ckZ_0]
      exact ⟨_, rfl, PicM_p h (p + 1), by omega, by omega⟩
  unfold f_X12_compares_j62
  simp only [hS, cr_s, jn_e]
  by_cases e : sRel (tx (τ0.1 115) L p) = -1
  · have eq : sCmp2 (τ0.1 115) L f v p = (p, none) := by unfold sCmp2; rw [if_pos e]
    rw [eq]
    have n0 : tx (τ0.1 115) L p ≠ 60 := fun g => by rw [g] at e; exact absurd e (by decide)
    have n1 : tx (τ0.1 115) L p ≠ 61 := fun g => by rw [g] at e; exact absurd e (by decide)
    have n2 : tx (τ0.1 115) L p ≠ 62 := fun g => by rw [g] at e; exact absurd e (by decide)
    rw [if_neg n0, if_neg n1, if_neg n2, ckZ_0]
    exact ⟨τ, rfl, h, Nat.le_refl _, hp⟩
  · obtain ⟨rl, r1, r2, r3⟩ := sRel_n e
    have hpl : p < L := tx_lt (fun e2 => e (by rw [e2]; rfl))
    obtain ⟨τ', k1, k2, k3, k4⟩ := hj hpl
    have eF : (if tx (τ0.1 115) L p = 60 then f_X12_compares_j91 τ () else if tx (τ0.1 115) L p = 61 then f_X12_compares_j91 τ () else if tx (τ0.1 115) L p = 62 then f_X12_compares_j91 τ () else ckZ 0 (some (0, τ))) = f_X12_compares_j91 τ () := by
      rw [r2]
      rcases (show rl = 0 ∨ rl = 1 ∨ rl = 2 by omega) with rfl | rfl | rfl
      · rw [if_pos (by decide)]
      · rw [if_neg (by decide), if_pos (by decide)]
      · rw [if_neg (by decide), if_neg (by decide), if_pos (by decide)]
    rw [eF]
    refine ⟨τ', ?_⟩
    unfold sCmp2
    rw [if_neg e]
    by_cases e2 : 48 ≤ (tx (τ0.1 115) L (p + 1)).toInt ∧ (tx (τ0.1 115) L (p + 1)).toInt ≤ 57
    · rw [if_pos e2] at k1 k2 k3 k4 ⊢
      exact ⟨k1, k2, k3, k4⟩
    · rw [if_neg e2] at k1 k2 k3 k4 ⊢
      exact ⟨k1, k2, k3, k4⟩
theorem pm_cmp {τ0 τ : Hp} {L p : Nat} (hL : τ0.1 86 37 = nI L) (hL40 : L ≤ 40) {w : List Nat} (hp : p ≤ L) (h : PicM τ0 τ p w) : ∃ τ', f_X12_compares τ = some (rO (sCmp (τ0.1 115) L p).2, τ') ∧ PicM τ0 τ' (sCmp (τ0.1 115) L p).1 w ∧ p ≤ (sCmp (τ0.1 115) L p).1 ∧ (sCmp (τ0.1 115) L p).1 ≤ L := by
  have hS := pm_sign h hL hL40 (by omega)
  unfold f_X12_compares
  rw [hS, cr_s, jn_e]
  by_cases e : sFact (tx (τ0.1 115) L p) = -1
  · have eq : sCmp (τ0.1 115) L p = (p, none) := by unfold sCmp; rw [if_pos e]
    rw [eq]
    have n0 : tx (τ0.1 115) L p ≠ 116 := fun g => by rw [g] at e; exact absurd e (by decide)
    have n1 : tx (τ0.1 115) L p ≠ 114 := fun g => by rw [g] at e; exact absurd e (by decide)
    have n2 : tx (τ0.1 115) L p ≠ 119 := fun g => by rw [g] at e; exact absurd e (by decide)
    have n3 : tx (τ0.1 115) L p ≠ 118 := fun g => by rw [g] at e; exact absurd e (by decide)
    have n4 : tx (τ0.1 115) L p ≠ 112 := fun g => by rw [g] at e; exact absurd e (by decide)
    rw [if_neg n0, if_neg n1, if_neg n2, if_neg n3, if_neg n4, ckZ_0]
    exact ⟨τ, rfl, h, Nat.le_refl _, hp⟩
  obtain ⟨f, f1, f2, f3⟩ := sFact_n e
  have hpl : p < L := tx_lt (fun e2 => e (by rw [e2]; rfl))
  have eF : ∀ K : Option (Int32 × Hp), (if tx (τ0.1 115) L p = 116 then K else if tx (τ0.1 115) L p = 114 then K else if tx (τ0.1 115) L p = 119 then K else if tx (τ0.1 115) L p = 118 then K else if tx (τ0.1 115) L p = 112 then K else ckZ 0 (some (0, τ))) = K := fun K => by
    rw [f2]
    rcases (show f = 0 ∨ f = 1 ∨ f = 2 ∨ f = 3 ∨ f = 4 by omega) with rfl | rfl | rfl | rfl | rfl
    · rw [if_neg (by decide), if_pos (by decide)]
    · rw [if_neg (by decide), if_neg (by decide), if_pos (by decide)]
    · rw [if_neg (by decide), if_neg (by decide), if_neg (by decide), if_pos (by decide)]
    · rw [if_neg (by decide), if_neg (by decide), if_neg (by decide), if_neg (by decide), if_pos (by decide)]
    · rw [if_pos (by decide)]
  rw [eF]
  unfold f_X12_compares_j37 sCmp
  rw [lt_e, jn_e, h.1.1, nI_1, if_neg e]
  have hP1 := PicM_p h (p + 1)
  by_cases e4 : f = 4
  · subst e4
    rw [if_pos (show sFact (tx (τ0.1 115) L p) = 4 from f3), if_pos (show tx (τ0.1 115) L p = 116 from f2)]
    obtain ⟨τ', k1, k2, k3, k4⟩ := pm_cmp2 hL hL40 (by omega) hP1 4 0
    exact ⟨τ', k1, k2, by omega, k4⟩
  · rw [if_neg (show ¬ sFact (tx (τ0.1 115) L p) = 4 from fun g => e4 ((nI_eq (b := 4) (by omega) (by omega)).1 (f3.symm.trans g))), if_neg (show ¬ tx (τ0.1 115) L p = 116 from fun g => by rw [g] at f2; rcases (show f = 0 ∨ f = 1 ∨ f = 2 ∨ f = 3 by omega) with rfl | rfl | rfl | rfl <;> exact absurd f2 (by decide)), pm_digit hP1 hL hL40 (by omega)]
    by_cases e2 : 48 ≤ (tx (τ0.1 115) L (p + 1)).toInt ∧ (tx (τ0.1 115) L (p + 1)).toInt ≤ 57
    · have hpl2 := dg_lt e2
      simp only [if_pos e2]
      rw [cl_s, z1z]
      obtain ⟨τ', k1, k2, k3, k4⟩ := pm_cmp2 hL hL40 (by omega) (PicM_p hP1 (p + 2)) (sFact (tx (τ0.1 115) L p)) (tx (τ0.1 115) L (p + 1) - 48)
      exact ⟨τ', k1, k2, by omega, k4⟩
    · simp only [if_neg e2]
      rw [cl_s, z0z, ckZ_0]
      exact ⟨_, rfl, hP1, by omega, by omega⟩
