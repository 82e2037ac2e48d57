theorem ouN_dr {pl : Nat → Nat → Nat} {t : Nat → Nat} {p g n g' : Nat} (hg : g < 3) (hg' : g' < 3) : ∀ Q, ouN pl (un t (3 * p + g) (t (3 * p + g) + n)) g' Q = ouN pl t g' Q + (if g' = g ∧ pl 12 p = 0 ∧ p < Q then n else 0)
  | 0 => by rw [if_neg (by omega)]; rfl
  | Q + 1 => by
    show ouN pl (un t (3 * p + g) (t (3 * p + g) + n)) g' Q + (if pl 12 Q = 0 then un t (3 * p + g) (t (3 * p + g) + n) (3 * Q + g') else 0) = ouN pl t g' Q + (if pl 12 Q = 0 then t (3 * Q + g') else 0) + _
    rw [ouN_dr hg hg' Q, un_at]
    by_cases e : Q = p
    · subst e
      rw [if_neg (show ¬ (g' = g ∧ pl 12 Q = 0 ∧ Q < Q) by omega)]
      by_cases e2 : pl 12 Q = 0
      · rw [if_pos e2, if_pos e2]
        by_cases e1 : g' = g
        · rw [if_pos (show g' = g ∧ pl 12 Q = 0 ∧ Q < Q + 1 from ⟨e1, e2, by omega⟩), if_pos (show 3 * Q + g' = 3 * Q + g by omega), e1]
          omega
        · rw [if_neg (show ¬ (g' = g ∧ pl 12 Q = 0 ∧ Q < Q + 1) from fun h => e1 h.1), if_neg (show ¬ 3 * Q + g' = 3 * Q + g by omega)]
          omega
      · rw [if_neg e2, if_neg e2, if_neg (show ¬ (g' = g ∧ pl 12 Q = 0 ∧ Q < Q + 1) from fun h => e2 h.2.1)]
    · rw [if_neg (show ¬ 3 * Q + g' = 3 * p + g by omega)]
      by_cases e1 : g' = g ∧ pl 12 p = 0 ∧ p < Q
      · rw [if_pos (show g' = g ∧ pl 12 p = 0 ∧ p < Q from e1), if_pos (show g' = g ∧ pl 12 p = 0 ∧ p < Q + 1 from ⟨e1.1, e1.2.1, by omega⟩)]
        omega
      · rw [if_neg e1, if_neg (show ¬ (g' = g ∧ pl 12 p = 0 ∧ p < Q + 1) from fun h => e1 ⟨h.1, h.2.1, by omega⟩)]
        omega
theorem ouN_gb {pl : Nat → Nat → Nat} {t : Nat → Nat} {p g v g' : Nat} (hg : g < 3) (hg' : g' < 3) (hl : 0 < pl 12 p) : ∀ Q, ouN pl (un t (3 * p + g) v) g' Q = ouN pl t g' Q
  | 0 => rfl
  | Q + 1 => by
    show ouN pl (un t (3 * p + g) v) g' Q + (if pl 12 Q = 0 then un t (3 * p + g) v (3 * Q + g') else 0) = ouN pl t g' Q + (if pl 12 Q = 0 then t (3 * Q + g') else 0)
    rw [ouN_gb hg hg' hl Q, un_at]
    by_cases e : Q = p
    · subst e
      rw [if_neg (by omega), if_neg (by omega)]
    · rw [if_neg (show ¬ 3 * Q + g' = 3 * p + g by omega)]
theorem m_holds {ρ : Hp} {t : Nat → Nat} (ht : ρ.1 101 = nrow t) {p : Nat} (hp : p < 8) : f_X12_holds (nI p) ρ = some (nI (hdN t p)) := by
  unfold f_X12_holds hdN
  simp (disch := omega) only [n_3, n_1, n_2, pk_mul, nI_add, ldI_n, ht, nrow_at]
theorem m_sucks {pl : Nat → Nat → Nat} (hB : PB pl) {τ : Hp} (hP : PM τ pl) {x : (Nat → Nat) × (Nat → Nat)} {w d : Nat → Nat} {B : Nat} (hBB : B < 700000000) (ha : τ.1 99 = nrow x.1) (ht : τ.1 101 = nrow x.2) (hO : OU pl τ x.2) (hK : KNk B x.1 w x.2 d ∧ TN pl x.2) {p : Nat} (hp : p < pl 1 11) : ∃ τ', f_X12_sucks (nI p) τ = some τ' ∧ τ'.1 99 = nrow (drs pl p x 3).1 ∧ τ'.1 101 = nrow (drs pl p x 3).2 ∧ OU pl τ' (drs pl p x 3).2 ∧ fr [99, 101, 103] τ τ' := by
  obtain ⟨⟨b1, b2, b3, b4, b5⟩, b6, b7, b8, b9, b10, b11, b12, b13, b14⟩ := id hB
  have hr := b12 p hp
  have hsz := b6 _ hr
  have hl := b14 p
  unfold f_X12_sucks
  refine lp_h (Q := fun r => ∃ τ', r = some τ' ∧ τ'.1 99 = nrow (drs pl p x 3).1 ∧ τ'.1 101 = nrow (drs pl p x 3).2 ∧ OU pl τ' (drs pl p x 3).2 ∧ fr [99, 101, 103] τ τ') 3 (fun g ρ => ρ.1 99 = nrow (drs pl p x g).1 ∧ ρ.1 101 = nrow (drs pl p x g).2 ∧ OU pl ρ (drs pl p x g).2 ∧ fr [99, 101, 103] τ ρ) ?_ ?_ (by omega) ⟨ha, ht, hO, fr_0 _ _⟩
  · rintro g ρ hg ⟨h1, h2, h4, h3⟩ K
    have hP' : PM ρ pl := PM_fr (by decide) h3 hP
    obtain ⟨⟨f1, f2, f3, f4, f5⟩, f6, f7, f8, f9, f10, f11, f12, f13, f14, f15, f16⟩ := id hP'
    have hK1 := KN_drs hB hK hp g (by omega)
    show ∃ τ', (τ'.1 99 = nrow (drN pl p g (drs pl p x g)).1 ∧ τ'.1 101 = nrow (drN pl p g (drs pl p x g)).2 ∧ OU pl τ' (drN pl p g (drs pl p x g)).2 ∧ fr [99, 101, 103] τ τ') ∧ _
    generalize drs pl p x g = y at h1 h2 h4 hK1 ⊢
    have q1 := KN_a hK1.1 (k := 3 * pl 10 p + g) (by omega)
    have q4 := tkN_le hB hp g y
    have q5 := b13 (3 * p + g)
    have q6 := m_holds h2 (show p < 8 by omega)
    have q7 := m_share hB hP' h1 hr hg q5 (by omega)
    generalize hs : y.1 (3 * pl 10 p + g) * pl 11 (3 * p + g) / (100 * pl 2 (pl 10 p)) = s at q4 q7
    have hn : tkN pl p g y = if 0 < pl 12 p then min s (pl 12 p - hdN y.2 p) else s := by unfold tkN; rw [hs]
    show ∃ τ', (τ'.1 99 = nrow (un y.1 (3 * pl 10 p + g) (y.1 (3 * pl 10 p + g) - tkN pl p g y)) ∧ τ'.1 101 = nrow (un y.2 (3 * p + g) (y.2 (3 * p + g) + tkN pl p g y)) ∧ OU pl τ' (un y.2 (3 * p + g) (y.2 (3 * p + g) + tkN pl p g y)) ∧ fr [99, 101, 103] τ τ') ∧ _
    generalize tkN pl p g y = n at hn q4 ⊢
    have hgo : ∀ k : Int32 → Option Hp, True := fun _ => trivial
    -- what is taken, worked out
    have e1 : f_X12_sucks_l2 (nI p) K (nI g, ρ) = f_X12_sucks_j94 (nI p) (nI g, ρ) K (nI (3 * pl 10 p + g)) (nI n) := by
      by_cases hlim : 0 < pl 12 p
      · have q8 := hK1.2.1 p hlim
        rw [if_pos hlim] at hn
        by_cases hle : s ≤ pl 12 p - hdN y.2 p
        · rw [Nat.min_eq_left hle] at hn
          subst hn
          simp (disch := omega) only [f_X12_sucks_l2, f_X12_sucks_j54, jn_e, lt_e, n_0, n_3, pk_mul, nI_add, le_f, le_t, ldI_n, h1, f14, f15, f16, nrow_at, q7, cr_s, q6, pk_sub]
        · rw [Nat.min_eq_right (by omega)] at hn
          subst hn
          simp (disch := omega) only [f_X12_sucks_l2, f_X12_sucks_j54, jn_e, lt_e, n_0, n_3, pk_mul, nI_add, le_f, le_t, ldI_n, h1, f14, f15, f16, nrow_at, q7, cr_s, q6, pk_sub]
      · rw [if_neg hlim] at hn
        subst hn
        simp (disch := omega) only [f_X12_sucks_l2, f_X12_sucks_j54, jn_e, lt_e, n_0, n_3, pk_mul, nI_add, le_f, le_t, ldI_n, h1, f14, f15, f16, nrow_at, q7, cr_s]
    rw [e1]
    generalize hρ1 : sI (sI ρ 99 (3 * pl 10 p + g) (nI (y.1 (3 * pl 10 p + g) - n))) 101 (3 * p + g) (nI (y.2 (3 * p + g) + n)) = ρ1
    have r1 : ρ1.1 99 = nrow (un y.1 (3 * pl 10 p + g) (y.1 (3 * pl 10 p + g) - n)) := by
      rw [← hρ1]
      show upd (ρ.1 99) _ _ = _
      rw [h1, upd_nrow]
    have r2 : ρ1.1 101 = nrow (un y.2 (3 * p + g) (y.2 (3 * p + g) + n)) := by
      rw [← hρ1]
      show upd (ρ.1 101) _ _ = _
      rw [h2, upd_nrow]
    have r3 : fr [99, 101, 103] ρ ρ1 := by rw [← hρ1]; exact fr_s (by decide) (fr_s (by decide) (fr_0 _ _))
    have r4 : ∀ k, ρ1.1 97 k = nI (pl 12 k) := by rw [r3 97 (by decide)]; exact f16
    have r5 : ρ1.1 103 = ρ.1 103 := by rw [← hρ1]; rfl
    have e2 : f_X12_sucks_j94 (nI p) (nI g, ρ) K (nI (3 * pl 10 p + g)) (nI n) = if nI (pl 12 p) = nI 0 then K (nI (g + 1), sI ρ1 103 g (nI (ouN pl y.2 g (pl 1 11) + n))) else K (nI (g + 1), ρ1) := by
      have h4' := h4 g hg
      simp (disch := omega) only [f_X12_sucks_j94, f_X12_sucks_j140, jn_e, lt_e, n_0, n_3, n_1, pk_mul, nI_add, ldI_n, stI_n, h1, h2, nrow_at, sI_1, reduceIte, Nat.reduceEqDiff, pk_sub, upd_nrow, f16, h4', hρ1]
    rw [e2]
    by_cases hz : pl 12 p = 0
    · rw [if_pos (by rw [hz])]
      refine ⟨sI ρ1 103 g (nI (ouN pl y.2 g (pl 1 11) + n)), ⟨r1, r2, ?_, fr_s (by decide) (fr_t h3 r3)⟩, rfl⟩
      intro g' hg'
      show upd (ρ1.1 103) _ _ g' = _
      rw [r5, ouN_dr hg hg']
      by_cases eg : g' = g
      · subst eg
        rw [pk_us, if_pos ⟨rfl, hz, hp⟩]
      · rw [pk_un eg, if_neg (fun h => eg h.1)]
        exact h4 g' hg'
    · rw [if_neg (fun h => hz ((nI_eq (by omega) (by omega)).1 h))]
      refine ⟨_, ⟨r1, r2, ?_, fr_t h3 r3⟩, rfl⟩
      intro g' hg'
      rw [r5, ouN_dr hg hg', if_neg (fun h => hz h.2.1)]
      exact h4 g' hg'
  · rintro ρ ⟨h1, h2, h4, h3⟩ K
    exact ⟨ρ, rfl, h1, h2, h4, h3⟩
theorem bN_clr {m p : Nat} (hm : m < 256) (hp : p < 8) (hb : m.testBit p = true) {f : Nat → Int32} (hf : ∀ k, f k = bN m k) : ∀ k, upd f p 0 k = bN (m - 2 ^ p) k := by
  intro k
  by_cases e : k = p
  · subst e
    rw [pk_us]
    unfold bN
    rw [(clrC m hm k hp hb).2 k hp, decide_eq_true rfl, Bool.not_true, Bool.and_false]
    rfl
  · rw [pk_un e, hf k]
    unfold bN
    rcases Nat.lt_or_ge k 8 with h | h
    · rw [(clrC m hm p hp hb).2 k h, decide_eq_false e, Bool.not_false, Bool.and_true]
    · rw [tb_big (b := 8) hm h, tb_big (b := 8) (Nat.lt_of_le_of_lt (Nat.sub_le _ _) hm) h]
theorem WN_clr {pl : Nat → Nat → Nat} {m p : Nat} (hm : m < 256) (hp : p < 8) (hb : m.testBit p = true) (h : WN pl m) : WN pl (m - 2 ^ p) := by
  have h1 : ∀ k, (m - 2 ^ p).testBit k = true → m.testBit k = true := fun k hk => by
    rcases Nat.lt_or_ge k 8 with h | h
    · rw [(clrC m hm p hp hb).2 k h, Bool.and_eq_true] at hk
      exact hk.1
    · rw [tb_big (b := 8) (Nat.lt_of_le_of_lt (Nat.sub_le _ _) hm) h] at hk
      cases hk
  refine ⟨fun j hj => ?_, fun j hj => h.2 j (h1 j hj)⟩
  cases e : (m - 2 ^ p).testBit j with
  | false => rfl
  | true => exact absurd (h1 j e) (by rw [h.1 j hj]; decide)
theorem m_back {pl : Nat → Nat → Nat} (hB : PB pl) {τ : Hp} (hP : PM τ pl) {x : (Nat → Nat) × (Nat → Nat)} {w d : Nat → Nat} {B m : Nat} (hBB : B < 700000000) (ha : τ.1 99 = nrow x.1) (ht : τ.1 101 = nrow x.2) (hm : ∀ k, τ.1 106 k = bN m k) (hm8 : m < 256) (hO : OU pl τ x.2) (hK : KNk B x.1 w x.2 d ∧ TN pl x.2) {p : Nat} (hp : p < pl 1 11) (hmp : m.testBit p = true) (hl : 0 < pl 12 p) : ∃ τ', f_X12_givesBack (nI p) τ = some τ' ∧ τ'.1 99 = nrow (gbs pl p x 3).1 ∧ τ'.1 101 = nrow (gbs pl p x 3).2 ∧ (∀ k, τ'.1 106 k = bN (if hdN (gbs pl p x 3).2 p = 0 then m - 2 ^ p else m) k) ∧ OU pl τ' (gbs pl p x 3).2 ∧ fr [99, 101, 106] τ τ' := by
  obtain ⟨⟨b1, b2, b3, b4, b5⟩, b6, b7, b8, b9, b10, b11, b12, b13, b14⟩ := id hB
  have hr := b12 p hp
  unfold f_X12_givesBack
  rw [jn_e]
  refine lp_h (Q := fun r => ∃ τ', r = some τ' ∧ τ'.1 99 = nrow (gbs pl p x 3).1 ∧ τ'.1 101 = nrow (gbs pl p x 3).2 ∧ (∀ k, τ'.1 106 k = bN (if hdN (gbs pl p x 3).2 p = 0 then m - 2 ^ p else m) k) ∧ OU pl τ' (gbs pl p x 3).2 ∧ fr [99, 101, 106] τ τ') 3 (fun g ρ => ρ.1 99 = nrow (gbs pl p x g).1 ∧ ρ.1 101 = nrow (gbs pl p x g).2 ∧ OU pl ρ (gbs pl p x g).2 ∧ fr [99, 101] τ ρ) ?_ ?_ (by omega) ⟨ha, ht, hO, fr_0 _ _⟩
  · rintro g ρ hg ⟨h1, h2, h4, h3⟩ K
    have hP' : PM ρ pl := PM_fr (by decide) h3 hP
    obtain ⟨⟨f1, f2, f3, f4, f5⟩, f6, f7, f8, f9, f10, f11, f12, f13, f14, f15, f16⟩ := id hP'
    have hK1 := KN_gbs hB hK hp g (by omega)
    show ∃ τ', (τ'.1 99 = nrow (gbN pl p g (gbs pl p x g)).1 ∧ τ'.1 101 = nrow (gbN pl p g (gbs pl p x g)).2 ∧ OU pl τ' (gbN pl p g (gbs pl p x g)).2 ∧ fr [99, 101] τ τ') ∧ _
    generalize gbs pl p x g = y at h1 h2 h4 hK1 ⊢
    have q1 := KN_t hK1.1 (k := 3 * p + g) (by omega)
    refine ⟨sI (sI ρ 101 (3 * p + g) (nI (y.2 (3 * p + g) - (y.2 (3 * p + g) + 9) / 10))) 99 (3 * pl 10 p + g) (nI (y.1 (3 * pl 10 p + g) + (y.2 (3 * p + g) + 9) / 10)), ⟨?_, ?_, ?_, fr_s (by decide) (fr_s (by decide) h3)⟩, ?_⟩
    · show upd (ρ.1 99) _ _ = _
      rw [h1, upd_nrow]
      rfl
    · show upd (ρ.1 101) _ _ = _
      rw [h2, upd_nrow]
      rfl
    · intro g' hg'
      show ρ.1 103 g' = nI (ouN pl (un y.2 (3 * p + g) _) g' (pl 1 11))
      rw [ouN_gb hg hg' hl]
      exact h4 g' hg'
    · simp (disch := omega) only [f_X12_givesBack_l2, lt_e, n_3, n_1, n_9, n_10, pk_mul, nI_add, le_f, ldI_n, stI_n, h1, h2, f14, nrow_at, sI_1, reduceIte, Nat.reduceEqDiff, dvI_n, pk_div, pk_sub, upd_nrow]
  · rintro ρ ⟨h1, h2, h4, h3⟩ K
    have hK1 := KN_gbs hB hK hp 3 (by omega)
    generalize gbs pl p x 3 = y at h1 h2 h4 hK1 ⊢
    have q6 := m_holds h2 (show p < 8 by omega)
    have m1 : ∀ k, ρ.1 106 k = bN m k := by rw [h3 106 (by decide)]; exact hm
    have q0 := KN_t hK1.1 (k := 3 * p) (by omega)
    have q1 := KN_t hK1.1 (k := 3 * p + 1) (by omega)
    have q2 := KN_t hK1.1 (k := 3 * p + 2) (by omega)
    have q3 : nI (hdN y.2 p) = 0 ↔ hdN y.2 p = 0 := by
      have h0 : hdN y.2 p = y.2 (3 * p) + y.2 (3 * p + 1) + y.2 (3 * p + 2) := rfl
      exact nI_eq (a := hdN y.2 p) (b := 0) (by omega) (by omega)
    by_cases e : hdN y.2 p = 0
    · refine ⟨sI ρ 106 p 0, ?_, h1, h2, ?_, h4, fr_s (by decide) (fr_m (by decide) h3)⟩
      · simp (disch := omega) only [f_X12_givesBack_l2, f_X12_givesBack_j63, n_3, le_t, q6, cr_s, if_pos (q3.2 e), stZ_n]
        rfl
      · rw [if_pos e]
        exact bN_clr hm8 (by omega) hmp m1
    · refine ⟨ρ, ?_, h1, h2, ?_, h4, fr_m (by decide) h3⟩
      · simp (disch := omega) only [f_X12_givesBack_l2, f_X12_givesBack_j63, n_3, le_t, q6, cr_s, if_neg (fun h => e (q3.1 h))]
      · rw [if_neg e]; exact m1
theorem m_pumps {pl : Nat → Nat → Nat} (hB : PB pl) {τ : Hp} (hP : PM τ pl) {x : (Nat → Nat) × (Nat → Nat)} {w d : Nat → Nat} {B : Nat} (hBB : B < 700000000) (ha : τ.1 99 = nrow x.1) (ht : τ.1 101 = nrow x.2) (hO : OU pl τ x.2) (hK : KNk B x.1 w x.2 d ∧ TN pl x.2) (k162 : Hp → Option Hp) : ∃ τ', lp (f_X12_passes_l134 k162) FU ((0 : Int32), τ) = k162 τ' ∧ τ'.1 99 = nrow (sks pl x (pl 1 11)).1 ∧ τ'.1 101 = nrow (sks pl x (pl 1 11)).2 ∧ OU pl τ' (sks pl x (pl 1 11)).2 ∧ fr [99, 101, 103] τ τ' := by
  obtain ⟨⟨b1, b2, b3, b4, b5⟩, b6, b7, b8, b9, b10, b11, b12, b13, b14⟩ := id hB
  refine lp_h (Q := fun r => ∃ τ', r = k162 τ' ∧ τ'.1 99 = nrow (sks pl x (pl 1 11)).1 ∧ τ'.1 101 = nrow (sks pl x (pl 1 11)).2 ∧ OU pl τ' (sks pl x (pl 1 11)).2 ∧ fr [99, 101, 103] τ τ') (pl 1 11) (fun p ρ => ρ.1 99 = nrow (sks pl x p).1 ∧ ρ.1 101 = nrow (sks pl x p).2 ∧ OU pl ρ (sks pl x p).2 ∧ fr [99, 101, 103] τ ρ) ?_ ?_ (by omega) ⟨ha, ht, hO, fr_0 _ _⟩
  · rintro p ρ hp ⟨h1, h2, h4, h3⟩ K
    have hP' : PM ρ pl := PM_fr (by decide) h3 hP
    obtain ⟨⟨f1, f2, f3, f4, f5⟩, f6, f7, f8, f9, f10, f11, f12, f13, f14, f15, f16⟩ := id hP'
    have hK1 := KN_sks hB hK p (by omega)
    show ∃ τ', (τ'.1 99 = nrow (if (pl 1 15).testBit p then drs pl p (sks pl x p) 3 else sks pl x p).1 ∧ τ'.1 101 = nrow (if (pl 1 15).testBit p then drs pl p (sks pl x p) 3 else sks pl x p).2 ∧ OU pl τ' (if (pl 1 15).testBit p then drs pl p (sks pl x p) 3 else sks pl x p).2 ∧ fr [99, 101, 103] τ τ') ∧ _
    by_cases e : (pl 1 15).testBit p
    · rw [if_pos e]
      obtain ⟨σ1, g1, g2, g3, g5, g4⟩ := m_sucks hB hP' hBB h1 h2 h4 hK1 hp
      refine ⟨σ1, ⟨g2, g3, g5, fr_t h3 g4⟩, ?_⟩
      simp (disch := omega) only [f_X12_passes_l134, f_X12_passes_j156, jn_e, lt_e, n_0, n_1, f3, f5, le_f, ldI_n, bN_0', e, if_true, g1, cr_s, nI_add]
    · rw [if_neg e]
      refine ⟨ρ, ⟨h1, h2, h4, h3⟩, ?_⟩
      have e := Bool.eq_false_iff.mpr e
      simp (disch := omega) only [f_X12_passes_l134, f_X12_passes_j156, jn_e, lt_e, n_0, n_1, f3, f5, le_f, ldI_n, bN_0', e, if_false, Bool.false_eq_true, nI_add]
  · rintro ρ ⟨h1, h2, h4, h3⟩ K
    have hP' : PM ρ pl := PM_fr (by decide) h3 hP
    refine ⟨ρ, ?_, h1, h2, h4, h3⟩
    simp (disch := omega) only [f_X12_passes_l134, hP'.1.2.2.1, le_t]
theorem m_backs {pl : Nat → Nat → Nat} (hB : PB pl) {τ : Hp} (hP : PM τ pl) {x : ((Nat → Nat) × (Nat → Nat)) × Nat} {w d : Nat → Nat} {B : Nat} (hBB : B < 700000000) (ha : τ.1 99 = nrow x.1.1) (ht : τ.1 101 = nrow x.1.2) (hm : ∀ k, τ.1 106 k = bN x.2 k) (hm8 : x.2 < 256) (hW : WN pl x.2) (hO : OU pl τ x.1.2) (hK : KNk B x.1.1 w x.1.2 d ∧ TN pl x.1.2) (k192 : Hp → Option Hp) : ∃ τ', lp (f_X12_passes_l164 k192) FU ((0 : Int32), τ) = k192 τ' ∧ τ'.1 99 = nrow (bks pl x (pl 1 11)).1.1 ∧ τ'.1 101 = nrow (bks pl x (pl 1 11)).1.2 ∧ (∀ k, τ'.1 106 k = bN (bks pl x (pl 1 11)).2 k) ∧ ((bks pl x (pl 1 11)).2 < 256 ∧ WN pl (bks pl x (pl 1 11)).2) ∧ OU pl τ' (bks pl x (pl 1 11)).1.2 ∧ fr [99, 101, 106] τ τ' := by
  obtain ⟨⟨b1, b2, b3, b4, b5⟩, b6, b7, b8, b9, b10, b11, b12, b13, b14⟩ := id hB
  refine lp_h (Q := fun r => ∃ τ', r = k192 τ' ∧ τ'.1 99 = nrow (bks pl x (pl 1 11)).1.1 ∧ τ'.1 101 = nrow (bks pl x (pl 1 11)).1.2 ∧ (∀ k, τ'.1 106 k = bN (bks pl x (pl 1 11)).2 k) ∧ ((bks pl x (pl 1 11)).2 < 256 ∧ WN pl (bks pl x (pl 1 11)).2) ∧ OU pl τ' (bks pl x (pl 1 11)).1.2 ∧ fr [99, 101, 106] τ τ') (pl 1 11) (fun p ρ => ρ.1 99 = nrow (bks pl x p).1.1 ∧ ρ.1 101 = nrow (bks pl x p).1.2 ∧ (∀ k, ρ.1 106 k = bN (bks pl x p).2 k) ∧ ((bks pl x p).2 < 256 ∧ WN pl (bks pl x p).2) ∧ OU pl ρ (bks pl x p).1.2 ∧ fr [99, 101, 106] τ ρ) ?_ ?_ (by omega) ⟨ha, ht, hm, ⟨hm8, hW⟩, hO, fr_0 _ _⟩
  · rintro p ρ hp ⟨h1, h2, h5, ⟨h6, h7⟩, h4, h3⟩ K
    have hP' : PM ρ pl := PM_fr (by decide) h3 hP
    obtain ⟨⟨f1, f2, f3, f4, f5⟩, f6, f7, f8, f9, f10, f11, f12, f13, f14, f15, f16⟩ := id hP'
    have hK1 := KN_bks hB hK p (by omega)
    have eu : bks pl x (p + 1) = if (bks pl x p).2.testBit p then (gbs pl p (bks pl x p).1 3, if hdN (gbs pl p (bks pl x p).1 3).2 p = 0 then (bks pl x p).2 - 2 ^ p else (bks pl x p).2) else bks pl x p := rfl
    rw [eu]
    generalize bks pl x p = y at h1 h2 h4 h5 h6 h7 hK1 ⊢
    by_cases e : y.2.testBit p
    · rw [if_pos e]
      obtain ⟨σ1, g1, g2, g3, g4, g5, g6⟩ := m_back hB hP' hBB h1 h2 h5 h6 h4 hK1 hp e (h7.2 p e)
      refine ⟨σ1, ⟨g2, g3, g4, ⟨?_, ?_⟩, g5, fr_t h3 g6⟩, ?_⟩
      · show (if _ then _ else _) < 256
        split
        · exact Nat.lt_of_le_of_lt (Nat.sub_le _ _) h6
        · exact h6
      · show WN pl (if _ then _ else _)
        split
        · exact WN_clr h6 (by omega) e h7
        · exact h7
      · simp (disch := omega) only [f_X12_passes_l164, f_X12_passes_j186, jn_e, lt_e, n_0, n_1, f3, h5, le_f, ldI_n, bN_0', e, if_true, g1, cr_s, nI_add]
    · rw [if_neg e]
      refine ⟨ρ, ⟨h1, h2, h5, ⟨h6, h7⟩, h4, h3⟩, ?_⟩
      have e := Bool.eq_false_iff.mpr e
      simp (disch := omega) only [f_X12_passes_l164, f_X12_passes_j186, jn_e, lt_e, n_0, n_1, f3, h5, le_f, ldI_n, bN_0', e, if_false, Bool.false_eq_true, nI_add]
  · rintro ρ ⟨h1, h2, h5, h6, h4, h3⟩ K
    have hP' : PM ρ pl := PM_fr (by decide) h3 hP
    refine ⟨ρ, ?_, h1, h2, h5, h6, h4, h3⟩
    simp (disch := omega) only [f_X12_passes_l164, hP'.1.2.2.1, le_t]
/-- a tick of the model -/
theorem m_pass {pl : Nat → Nat → Nat} (hB : PB pl) {τ : Hp} (hP : PM τ pl) {x : GS} {B k : Nat} (hBB : B + 4995 < 700000000) (hG : GM τ x) (hN : NI pl B x) (hW : WN pl x.2.2.2) (hO : OU pl τ x.1.2) (hk : τ.1 86 23 = nI k) : ∃ τ', f_X12_passes τ = some (sI τ' 86 23 (nI (k + 1))) ∧ GM τ' (nps pl x) ∧ OU pl τ' (nps pl x).1.2 ∧ ((nps pl x).2.2.2 < 256 ∧ WN pl (nps pl x).2.2.2) ∧ fr [99, 100, 101, 102, 103, 106, 107, 108] τ τ' := by
  obtain ⟨⟨b1, b2, b3, b4, b5⟩, b6, b7, b8, b9, b10, b11, b12, b13, b14⟩ := id hB
  obtain ⟨G1, G2, G3, G4, G5⟩ := hG
  obtain ⟨⟨N1, N2⟩, N3⟩ := hN
  obtain ⟨τ1, o1, o2, o3, o4⟩ := m_off hB hP G1 G2 (fun k hk => by have := KN_w N1 hk; omega) f_X12_passes_j78
  have P1 : PM τ1 pl := PM_fr (by decide) o4 hP
  have K1 := KN_off hB N1 (3 * pl 1 0) (by omega)
  obtain ⟨τ2, l1, l2, l3, l4⟩ := m_leak hB P1 o2 (show τ1.1 102 = nrow x.2.2.1 by rw [o4 102 (by decide)]; exact G4) f_X12_passes_j128
  have P2 : PM τ2 pl := PM_fr (by decide) l4 P1
  have K2 := KN_leak' hB K1 (q := 3 * pl 1 0) (by omega)
  generalize ea : aL pl (aO pl x.2.1 x.1.1 (3 * pl 1 0)) (3 * pl 1 0) = a1 at l2 K2
  obtain ⟨τ3, s1, s2, s3⟩ := m_shares hB P2 l2 (fun k hk => by have := KN_a K2 hk; omega) f_X12_flows_j98
  have P3 : PM τ3 pl := PM_fr (by decide) s3 P2
  obtain ⟨τ4, p1, p2, p3⟩ := m_pipes hB P3 (by omega) (show τ3.1 99 = nrow a1 by rw [s3 99 (by decide)]; exact l2) (fun k hk => by have := KN_a K2 hk; omega) s2 K2
  have P4 : PM τ4 pl := PM_fr (by decide) p3 P3
  have K4 := KN_fls (b := a1) hB K2 (pl 1 6) (Nat.le_refl _)
  have F4 : ∀ c, c ∉ [99, 100, 102, 107, 108] → τ4.1 c = τ.1 c := fun c hc => by
    rw [p3 c (fun h => hc (by revert h; revert c; intro c _ h; simp only [List.mem_cons, List.not_mem_nil, or_false] at h ⊢; omega)), s3 c (fun h => hc (by simp only [List.mem_cons, List.not_mem_nil, or_false] at h ⊢; omega)), l4 c (fun h => hc (by simp only [List.mem_cons, List.not_mem_nil, or_false] at h ⊢; omega)), o4 c (fun h => hc (by simp only [List.mem_cons, List.not_mem_nil, or_false] at h ⊢; omega))]
  have O4 : OU pl τ4 x.1.2 := fun g hg => by rw [F4 103 (by decide)]; exact hO g hg
  obtain ⟨τ5, q1, q2, q3, q5, q4⟩ := m_pumps (x := (fls pl a1 a1 (pl 1 6), x.1.2)) hB P4 (by omega) p2 (show τ4.1 101 = nrow x.1.2 by rw [F4 101 (by decide)]; exact G3) O4 ⟨K4, N2⟩ f_X12_passes_j162
  have P5 : PM τ5 pl := PM_fr (by decide) q4 P4
  have K5 := KN_sks hB (x := (fls pl a1 a1 (pl 1 6), x.1.2)) ⟨K4, N2⟩ (pl 1 11) (Nat.le_refl _)
  obtain ⟨τ6, r1, r2, r3, r4, r5, r7, r6⟩ := m_backs (x := (sks pl (fls pl a1 a1 (pl 1 6), x.1.2) (pl 1 11), x.2.2.2)) hB P5 (by omega) q2 q3 (by rw [q4 106 (by decide), F4 106 (by decide)]; exact G5) (by show x.2.2.2 < 256; omega) hW q5 K5 f_X12_passes_j192
  refine ⟨τ6, ?_, ⟨?_, ?_, ?_, ?_, ?_⟩, ?_, ?_, ?_⟩
  · unfold f_X12_passes
    rw [jn_e, o1]
    unfold f_X12_passes_j78
    rw [jn_e, l1]
    unfold f_X12_passes_j128 f_X12_flows
    rw [jn_e, s1]
    unfold f_X12_flows_j98
    rw [p1, cr_s, jn_e, q1]
    unfold f_X12_passes_j162
    rw [jn_e, r1]
    unfold f_X12_passes_j192
    rw [lt_e, r6 86 (by decide), q4 86 (by decide), F4 86 (by decide), hk, nI_1]
  · rw [r2]; unfold nps; rw [ea]
  · rw [r6 100 (by decide), q4 100 (by decide), p3 100 (by decide), s3 100 (by decide), l4 100 (by decide), o3]; rfl
  · rw [r3]; unfold nps; rw [ea]
  · rw [r6 102 (by decide), q4 102 (by decide), p3 102 (by decide), s3 102 (by decide), l3]; rfl
  · intro j; rw [r4 j]; unfold nps; rw [ea]
  · unfold nps; rw [ea]; exact r7
  · unfold nps; rw [ea]; exact r5
  · exact fr_t (fr_t (fr_t (fr_t (fr_t (fr_m (by decide) o4) (fr_m (by decide) l4)) (fr_m (by decide) s3)) (fr_m (by decide) p3)) (fr_m (by decide) q4)) (fr_m (by decide) r6)
