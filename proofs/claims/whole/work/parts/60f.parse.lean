/-! ===== a text, read by both ===== -/
def sAll (t : Nat → Int32) (L : Nat) : Nat × Option (List Int32) :=
  if tx t L 0 = 80 ∨ tx t L 0 = 86 then (if 48 ≤ (tx t L 1).toInt ∧ (tx t L 1).toInt ≤ 57 then (if tx t L 2 = 58 then sThen (sT t L 24 0 0 3) (fun q s => if q = L then (q, some s) else (q, none)) else (2, none)) else (1, none)) else (0, none)
theorem PicC_self {σ : Hp} {L p : Nat} (h1 : σ.1 29 1 = nI L) (h2 : σ.1 29 2 = nI p) (h3 : σ.1 29 3 = tx (σ.1 30) L p) (h4 : σ.1 29 7 = 0) : PicC σ σ L p [] :=
  ⟨⟨h1, h2, h3, h4⟩, fun k hk => absurd hk (by rw [List.length_nil]; omega), fr_0 _ _, fun _ _ _ _ => rfl⟩
/-- behind the target's letter -/
theorem c_p52 {σ0 σ : Hp} {L : Nat} (hL40 : L ≤ 40) (hl : 1 ≤ L) (h : PicC σ0 σ L 1 []) {x : Nat × Option (List Int32)} (hx : x = if 48 ≤ (tx (σ0.1 30) L 1).toInt ∧ (tx (σ0.1 30) L 1).toInt ≤ 57 then (if tx (σ0.1 30) L 2 = 58 then sThen (sT (σ0.1 30) L 24 0 0 3) (fun q s => if q = L then (q, some s) else (q, none)) else (2, none)) else (1, none)) : ∃ σ', f_X6_parses_j52 σ = some (rO x.2, σ') ∧ σ'.1 29 2 = nI x.1 ∧ fr [29, 31] σ0 σ' ∧ (∀ j, j ≠ 2 → j ≠ 3 → j ≠ 5 → j ≠ 7 → σ'.1 29 j = σ0.1 29 j) ∧ ∀ s, x.2 = some s → σ'.1 29 5 = tx (σ0.1 30) L 1 - 48 ∧ σ'.1 29 7 = nI s.length ∧ s.length ≤ 40 ∧ ∀ k, k < s.length → s[k]? = some (σ'.1 31 k) := by
  have e30 : σ.1 30 = σ0.1 30 := h.2.2.1 30 (by decide)
  have hd := rc_digit h
  unfold f_X6_parses_j52
  rw [hd, cr_s, lt_e]
  by_cases e1 : 48 ≤ (tx (σ0.1 30) L 1).toInt ∧ (tx (σ0.1 30) L 1).toInt ≤ 57
  · rw [if_pos e1] at hx
    have hl2 := dg_lt e1
    obtain ⟨d, d1, d2⟩ := dig_n e1
    have hP : PicC (sI σ 29 5 (tx (σ0.1 30) L 1 - 48)) (sI σ 29 5 (tx (σ0.1 30) L 1 - 48)) L 1 [] := PicC_self h.1.1 h.1.2.1 (by show σ.1 29 3 = tx (σ.1 30) L 1; rw [e30]; exact h.1.2.2.1) h.1.2.2.2
    have hfr : fr [29, 31] σ0 (sI σ 29 5 (tx (σ0.1 30) L 1 - 48)) := fr_s (by decide) h.2.2.1
    have ht : (sI σ 29 5 (tx (σ0.1 30) L 1 - 48)).1 30 = σ0.1 30 := e30
    have hj0 : ∀ j, j ≠ 2 → j ≠ 3 → j ≠ 5 → j ≠ 7 → (sI σ 29 5 (tx (σ0.1 30) L 1 - 48)).1 29 j = σ0.1 29 j := fun j j2 j3 j5 j7 => by
      show upd (σ.1 29) 5 _ j = _
      rw [upd_at, if_neg j5]
      exact h.2.2.2 j j2 j3 j7
    have h5 : (sI σ 29 5 (tx (σ0.1 30) L 1 - 48)).1 29 5 = tx (σ0.1 30) L 1 - 48 := rfl
    rw [if_pos e1]
    generalize hσa : sI σ 29 5 (tx (σ0.1 30) L 1 - 48) = σa at hP hfr ht hj0 h5 ⊢
    obtain ⟨σb, b1, b2⟩ := rc_go hP hL40 (by omega)
    obtain ⟨sk1, sk2⟩ := rc_skip b2 hL40 (by omega) 58
    rw [ht] at sk1 sk2
    rw [h5, d2, if_pos (nI_pos' (by omega)), b1, cr_s]
    unfold f_X6_parses_j106 f_X6_parses_j105
    have hend : ∀ (σc : Hp) (p : Nat) (acc : List Int32), PicC σa σc L p acc → fr [29, 31] σ0 σc ∧ (∀ j, j ≠ 2 → j ≠ 3 → j ≠ 5 → j ≠ 7 → σc.1 29 j = σ0.1 29 j) ∧ σc.1 29 5 = tx (σ0.1 30) L 1 - 48 := fun σc p acc hc => by
      refine ⟨fr_t hfr hc.2.2.1, fun j j2 j3 j5 j7 => ?_, ?_⟩
      · rw [hc.2.2.2 j j2 j3 j7]; exact hj0 j j2 j3 j5 j7
      · rw [hc.2.2.2 5 (by omega) (by omega) (by omega)]; exact h5
    by_cases e2 : tx (σ0.1 30) L 2 = 58
    · rw [if_pos e2] at hx
      have hl3 : 2 < L := tx_lt (by rw [e2]; decide)
      obtain ⟨σc, c1, c2⟩ := sk1 e2
      rw [c1, cl_s, jn_e, jn_e, z1z]
      have hT := (all_C (σ0 := σa) hL40 24 0 (by omega)).1 (by omega) 3 [] σc c2 (by rw [List.length_nil]; omega) (by omega)
      rw [ht] at hT
      obtain ⟨⟨r1, r2⟩, r3, r4⟩ := hT
      match hy : sT (σ0.1 30) L 24 0 0 3 with
      | (q, none) =>
        rw [hy] at hx r1 r2 r3
        obtain ⟨σd, acc', k1, k2⟩ := r3 rfl
        unfold sThen at hx
        dsimp only at hx
        subst hx
        rw [show f_X6_tpp 24 0 (0 : Int32) σc = some (0, σd) from k1, cl_s, z0z]
        obtain ⟨m1, m2, m3⟩ := hend _ _ _ k2
        exact ⟨σd, rfl, k2.1.2.1, m1, m2, fun s e => by cases e⟩
      | (q, some s) =>
        rw [hy] at hx r1 r2 r4
        obtain ⟨l1, σd, k1, k2⟩ := r4 s rfl
        unfold sThen at hx
        dsimp only at hx r1 r2 l1 k2
        rw [List.nil_append] at k2
        rw [show f_X6_tpp 24 0 (0 : Int32) σc = some (1, σd) from k1, cl_s, z1z, k2.1.2.1, k2.1.1]
        obtain ⟨m1, m2, m3⟩ := hend _ _ _ k2
        by_cases e3 : q = L
        · rw [if_pos e3] at hx
          subst hx
          rw [if_pos (by rw [e3])]
          refine ⟨σd, rfl, k2.1.2.1, m1, m2, fun s' e => ?_⟩
          obtain rfl : s = s' := Option.some.inj e
          exact ⟨m3.trans d2, k2.1.2.2.2, by omega, k2.2.1⟩
        · rw [if_neg e3] at hx
          subst hx
          rw [if_neg (fun g => e3 ((nI_eq (by omega) (by omega)).1 g))]
          exact ⟨σd, rfl, k2.1.2.1, m1, m2, fun s e => by cases e⟩
    · rw [if_neg e2] at hx
      subst hx
      rw [sk2 e2, cl_s, jn_e, jn_e, z0z]
      obtain ⟨m1, m2, m3⟩ := hend _ _ _ b2
      exact ⟨σb, rfl, b2.1.2.1, m1, m2, fun s e => by cases e⟩
  · rw [if_neg e1] at hx
    subst hx
    rw [if_neg e1, show (sI σ 29 5 (-1)).1 29 5 = (-1 : Int32) from rfl, if_neg (by decide), ckZ_0]
    refine ⟨_, rfl, h.1.2.1, fr_s (by decide) h.2.2.1, fun j j2 j3 j5 j7 => ?_, fun s e => by cases e⟩
    show upd (σ.1 29) 5 _ j = _
    rw [upd_at, if_neg j5]
    exact h.2.2.2 j j2 j3 j7
theorem c_parses {σ : Hp} {L : Nat} (hL : σ.1 29 1 = nI L) (hL40 : L ≤ 40) : ∃ σ', f_X6_parses σ = some (rO (sAll (σ.1 30) L).2, σ') ∧ σ'.1 29 2 = nI (sAll (σ.1 30) L).1 ∧ fr [29, 31] σ σ' ∧ (∀ j, j ≠ 2 → j ≠ 3 → j ≠ 4 → j ≠ 5 → j ≠ 7 → σ'.1 29 j = σ.1 29 j) ∧ ∀ s, (sAll (σ.1 30) L).2 = some s → σ'.1 29 4 = (if tx (σ.1 30) L 0 = 80 then 1 else 0) ∧ σ'.1 29 5 = tx (σ.1 30) L 1 - 48 ∧ σ'.1 29 7 = nI s.length ∧ s.length ≤ 40 ∧ ∀ k, k < s.length → s[k]? = some (σ'.1 31 k) := by
  have hgo : f_X6_go (sI (sI σ 29 7 0) 29 2 (-1)) = some (sI (sI (sI (sI σ 29 7 0) 29 2 (-1)) 29 2 0) 29 3 (tx (σ.1 30) L 0)) := by
    unfold f_X6_go f_X6_go_j51 f_X6_go_j50
    rw [lt_e, jn_e, jn_e, show (sI (sI σ 29 7 0) 29 2 (-1)).1 29 2 + 1 = nI 0 from (by decide : (-1 : Int32) + 1 = nI 0), show ∀ τ : Hp, (sI τ 29 2 (nI 0)).1 29 2 = nI 0 from fun _ => rfl, show (sI (sI (sI σ 29 7 0) 29 2 (-1)) 29 2 (nI 0)).1 29 1 = σ.1 29 1 from rfl, hL, if_neg (nI_pos (by omega))]
    unfold tx
    by_cases e : 0 < L
    · rw [le_f e (by omega), show ∀ y z : Option Hp, (if (40 : Int32) ≤ nI 0 then y else z) = z from fun y z => le_f (b := 0) (a := 40) (by omega) (by omega), ldI_n (by omega) (by omega), if_pos e]; rfl
    · rw [le_t (by omega) (by omega), if_neg e]; rfl
  unfold f_X6_parses
  rw [lt_e, lt_e, hgo, cr_s, jn_e]
  generalize hσ3 : sI (sI (sI (sI σ 29 7 0) 29 2 (-1)) 29 2 0) 29 3 (tx (σ.1 30) L 0) = σ3
  have e3 : σ3.1 29 3 = tx (σ.1 30) L 0 := by rw [← hσ3]; rfl
  have e30 : σ3.1 30 = σ.1 30 := by rw [← hσ3]; rfl
  have e31 : σ3.1 29 1 = nI L := by rw [← hσ3]; exact hL
  have e32 : σ3.1 29 2 = nI 0 := by rw [← hσ3]; rfl
  have e37 : σ3.1 29 7 = 0 := by rw [← hσ3]; rfl
  have efr : fr [29, 31] σ σ3 := by
    rw [← hσ3]
    exact fr_s (by decide) (fr_s (by decide) (fr_s (by decide) (fr_s (by decide) (fr_0 _ _))))
  have ej : ∀ j, j ≠ 2 → j ≠ 3 → j ≠ 7 → σ3.1 29 j = σ.1 29 j := fun j j2 j3 j7 => by
    rw [← hσ3]
    show upd (upd (upd (upd (σ.1 29) 7 0) 2 (-1)) 2 0) 3 _ j = _
    rw [upd_at, if_neg j3, upd_at, if_neg j2, upd_at, if_neg j2, upd_at, if_neg j7]
  have hk : ∀ v : Int32, v = (if tx (σ.1 30) L 0 = 80 then 1 else 0) → ∃ σ', f_X6_parses_j29 σ3 v = some (rO (sAll (σ.1 30) L).2, σ') ∧ σ'.1 29 2 = nI (sAll (σ.1 30) L).1 ∧ fr [29, 31] σ σ' ∧ (∀ j, j ≠ 2 → j ≠ 3 → j ≠ 4 → j ≠ 5 → j ≠ 7 → σ'.1 29 j = σ.1 29 j) ∧ ∀ s, (sAll (σ.1 30) L).2 = some s → σ'.1 29 4 = (if tx (σ.1 30) L 0 = 80 then 1 else 0) ∧ σ'.1 29 5 = tx (σ.1 30) L 1 - 48 ∧ σ'.1 29 7 = nI s.length ∧ s.length ≤ 40 ∧ ∀ k, k < s.length → s[k]? = some (σ'.1 31 k) := fun v hv => by
    have hP : PicC (sI σ3 29 4 v) (sI σ3 29 4 v) L 0 [] := PicC_self e31 e32 (by show σ3.1 29 3 = tx (σ3.1 30) L 0; rw [e30]; exact e3) e37
    have h4 : (sI σ3 29 4 v).1 29 4 = v := rfl
    have ht : (sI σ3 29 4 v).1 30 = σ.1 30 := e30
    have hfr : fr [29, 31] σ (sI σ3 29 4 v) := fr_s (by decide) efr
    have hj0 : ∀ j, j ≠ 2 → j ≠ 3 → j ≠ 4 → j ≠ 7 → (sI σ3 29 4 v).1 29 j = σ.1 29 j := fun j j2 j3 j4 j7 => by
      show upd (σ3.1 29) 4 _ j = _
      rw [upd_at, if_neg j4]
      exact ej j j2 j3 j7
    have hck : ∀ y : Option (Int32 × Hp), ckZ v y = y := fun y => by
      rw [hv]
      split
      · exact ckZ_1 y
      · exact ckZ_0 y
    unfold f_X6_parses_j29
    rw [hck, lt_e]
    generalize hσa : sI σ3 29 4 v = σa at hP h4 ht hfr hj0 ⊢
    obtain ⟨a1, a2⟩ := rc_skip hP hL40 (by omega) 80
    obtain ⟨b1, b2⟩ := rc_skip hP hL40 (by omega) 86
    rw [ht] at a1 a2 b1 b2
    have hgood : ∀ σc, 1 ≤ L → (tx (σ.1 30) L 0 = 80 ∨ tx (σ.1 30) L 0 = 86) → PicC σa σc L 1 [] → ∃ σ', f_X6_parses_j52 σc = some (rO (sAll (σ.1 30) L).2, σ') ∧ σ'.1 29 2 = nI (sAll (σ.1 30) L).1 ∧ fr [29, 31] σ σ' ∧ (∀ j, j ≠ 2 → j ≠ 3 → j ≠ 4 → j ≠ 5 → j ≠ 7 → σ'.1 29 j = σ.1 29 j) ∧ ∀ s, (sAll (σ.1 30) L).2 = some s → σ'.1 29 4 = (if tx (σ.1 30) L 0 = 80 then 1 else 0) ∧ σ'.1 29 5 = tx (σ.1 30) L 1 - 48 ∧ σ'.1 29 7 = nI s.length ∧ s.length ≤ 40 ∧ ∀ k, k < s.length → s[k]? = some (σ'.1 31 k) := fun σc hl hc hPc => by
      obtain ⟨σ', k1, k2, k3, k4, k5⟩ := c_p52 hL40 hl hPc (x := sAll (σ.1 30) L) (by unfold sAll; rw [if_pos hc, ht])
      rw [ht] at k5
      refine ⟨σ', k1, k2, fr_t hfr k3, fun j j2 j3 j4 j5 j7 => (k4 j j2 j3 j5 j7).trans (hj0 j j2 j3 j4 j7), fun s hs => ?_⟩
      obtain ⟨q1, q2, q3, q4⟩ := k5 s hs
      exact ⟨by rw [k4 4 (by omega) (by omega) (by omega) (by omega), h4, hv], q1, q2, q3, q4⟩
    by_cases c80 : tx (σ.1 30) L 0 = 80
    · obtain ⟨σc, g1, g2⟩ := a1 c80
      have hl : 0 < L := tx_lt (by rw [c80]; decide)
      rw [g1, cl_s, jn_e, z1z]
      exact hgood σc hl (Or.inl c80) g2
    · rw [a2 c80, cl_s, jn_e, z0z]
      by_cases c86 : tx (σ.1 30) L 0 = 86
      · obtain ⟨σc, g1, g2⟩ := b1 c86
        have hl : 0 < L := tx_lt (by rw [c86]; decide)
        rw [g1, cl_s, z1z]
        exact hgood σc hl (Or.inr c86) g2
      · rw [b2 c86, cl_s, z0z, ckZ_0]
        have hx : sAll (σ.1 30) L = (0, none) := by unfold sAll; rw [if_neg (fun h => h.elim c80 c86)]
        rw [hx]
        exact ⟨σa, rfl, hP.1.2.1, hfr, fun j j2 j3 j4 j5 j7 => hj0 j j2 j3 j4 j7, fun s e => by cases e⟩
  rw [e3]
  by_cases c80 : tx (σ.1 30) L 0 = 80
  · rw [if_pos c80]; exact hk 1 (by rw [if_pos c80])
  · rw [if_neg c80]; exact hk 0 (by rw [if_neg c80])
theorem m_parses {τ : Hp} {L : Nat} (hL : τ.1 86 37 = nI L) (hL40 : L ≤ 40) (hb : ∀ k, bd (τ.1 115 k) 0 255) : Qm τ (rO (sAll (τ.1 115) L).2) (sAll (τ.1 115) L).1 (f_X12_parses τ) := by
  have hP : PicM τ (sI (sI τ 86 39 0) 86 40 0) 0 [] := ⟨⟨rfl, rfl⟩, trivial, fr_s (by decide) (fr_s (by decide) (fr_0 _ _)), fun j h1 h2 => by show upd (upd (τ.1 86) 39 0) 40 _ j = _; rw [upd_at, if_neg h2, upd_at, if_neg h1]⟩
  have hS := pm_sign hP hL hL40 (by omega)
  have hP1 := PicM_p hP 1
  have hj : (tx (τ.1 115) L 0 = 80 ∨ tx (τ.1 115) L 0 = 86) → Qm τ (rO (sAll (τ.1 115) L).2) (sAll (τ.1 115) L).1 (f_X12_parses_j30 (sI (sI τ 86 39 0) 86 40 0) ()) := fun hc => by
    unfold f_X12_parses_j30 sAll
    rw [if_pos hc, lt_e, show (sI (sI τ 86 39 0) 86 40 0).1 86 39 + 1 = nI 1 from rfl, pm_digit hP1 hL hL40 (by omega)]
    by_cases e1 : 48 ≤ (tx (τ.1 115) L 1).toInt ∧ (tx (τ.1 115) L 1).toInt ≤ 57
    · have hP2 := PicM_p hP1 2
      have hS2 := pm_sign hP2 hL hL40 (by omega)
      simp only [if_pos e1]
      rw [cl_s, z1z, hS2, cr_s]
      by_cases e2 : tx (τ.1 115) L 2 = 58
      · have hP3 := PicM_p hP2 3
        have hl3 : 2 < L := tx_lt (by rw [e2]; decide)
        simp only [if_pos e2]
        rw [lt_e, show (sI (sI (sI (sI τ 86 39 0) 86 40 0) 86 39 (nI 1)) 86 39 (nI (1 + 1))).1 86 39 + 1 = nI 3 from rfl]
        obtain ⟨g1, g2, g3⟩ := (all_TM hL hL40 24 0 (by omega)).1 (by omega) 3 (by omega)
        match hx : sT (τ.1 115) L 24 0 0 3 with
        | (q, none) =>
          rw [hx] at g1 g3
          unfold sThen
          exact g3 (Qm τ 0 q) [] rfl rfl (fun _ y hy => hy) (fun s e => by cases e) (by rw [List.length_nil]; omega) _ FU hP3 (by rw [FU_e]; omega)
        | (q, some s) =>
          rw [hx] at g1 g2 g3
          obtain ⟨g4, g5⟩ := g2 s rfl
          unfold sThen
          dsimp only at g1 g3 g4 g5 ⊢
          by_cases e3 : q = L
          · subst e3
            simp only [if_true]
            exact g3 (Qm τ 1 q) [] rfl rfl (fun e => by cases e) (fun s' e => mB_done hL hL40 (fun y hy => hy)) (by rw [List.length_nil]; omega) _ FU hP3 (by rw [FU_e]; omega)
          · simp only [if_neg e3]
            exact g3 (Qm τ 0 q) [] rfl rfl (fun e => by cases e) (fun s' e => mB_fail hL hL40 g1 (fun h => g5 (Or.inl (Or.inr h))) (fun h => g5 (Or.inr h)) (fun _ => rfl) (fun h => by
              unfold tx at h
              rw [if_pos (by omega)] at h
              have := (hb q).1
              rw [h] at this
              exact absurd this (by decide)) (fun y hy => hy)) (by rw [List.length_nil]; omega) _ FU hP3 (by rw [FU_e]; omega)
      · simp only [if_neg e2]
        rw [ckZ_0]
        exact Qm_of hP2 0
    · simp only [if_neg e1]
      rw [cl_s, z0z, ckZ_0]
      exact Qm_of hP1 0
  unfold f_X12_parses
  rw [lt_e, lt_e]
  simp only [hS, cr_s, jn_e]
  by_cases c86 : tx (τ.1 115) L 0 = 86
  · rw [if_pos c86]; exact hj (Or.inr c86)
  · rw [if_neg c86]
    by_cases c80 : tx (τ.1 115) L 0 = 80
    · rw [if_pos c80]; exact hj (Or.inl c80)
    · rw [if_neg c80, ckZ_0]
      have hx : sAll (τ.1 115) L = (0, none) := by unfold sAll; rw [if_neg (fun h => h.elim c80 c86)]
      rw [hx]
      exact Qm_of hP 0
