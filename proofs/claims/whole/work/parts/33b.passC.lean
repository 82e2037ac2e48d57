theorem cpI_n {α : Type} {σ : Hp} {ks kd n : Nat} {f : Hp → Option α} (hn : n < 100) : cpI σ ks n kd n (0 : Int32) (0 : Int32) (nI n) f = f (sR σ kd (va_cpy (σ.1 ks) (σ.1 kd) 0 0 n)) := by
  unfold cpI
  have h0 : (0 : Int32).toNatClampNeg = 0 := rfl
  rw [if_neg, h0, nI_clamp (by omega)]
  rw [h0, nI_clamp (by omega)]
  have h1 := nI_pos (n := n) (by omega)
  rintro (h | h | h | h | h)
  · exact absurd h (by decide)
  · exact absurd h (by decide)
  · exact h1 h
  · omega
  · omega
theorem cpy_at {f g : Nat → Int32} {n k : Nat} (h : k < n) : va_cpy f g 0 0 n k = f k := by
  unfold va_cpy
  rw [if_pos (by omega)]
  rw [Nat.zero_add, Nat.sub_zero]
/-- the pipes -/
theorem c_pipes13 {pl : Nat → Nat → Nat} (hB : PB pl) {σ : Hp} (hP : PC σ pl) {a b w t d : Nat → Nat} {B : Nat} (hBB : B < 700000000) (ha : σ.1 14 = nrow a) (hb : ∀ k, k < 15 → σ.1 18 k = nI (b k)) (hbb : ∀ k, k < 15 → b k < 2147483648) (hK : KNk B a w t d) (k99 : Hp → Option Hp) : ∃ σ', lp (f_X4_pass_l27 13 k99) FU ((0 : Int32), σ) = k99 σ' ∧ σ'.1 14 = nrow (fls pl b a (pl 1 6)) ∧ fr [14] σ σ' := by
  obtain ⟨⟨b1, b2, b3, b4, b5⟩, b6, b7, b8, b9, b10, b11, b12, b13, b14⟩ := id hB
  refine lp_h (Q := fun r => ∃ σ', r = k99 σ' ∧ σ'.1 14 = nrow (fls pl b a (pl 1 6)) ∧ fr [14] σ σ') (pl 1 6) (fun p τ => τ.1 14 = nrow (fls pl b a p) ∧ fr [14] σ τ) ?_ ?_ (by omega) ⟨ha, fr_0 _ _⟩
  · rintro p τ hp ⟨h1, h3⟩ K
    have hP' : PC τ pl := PC_fr (by decide) h3 hP
    obtain ⟨⟨f1, f2, f3, f4, f5⟩, f6, f7, f8, f9, f10, f11, f12, f13, f14, f15, f16⟩ := id hP'
    have hK1 := KN_fls (b := b) hB hK p (by omega)
    have hq := b11 p hp
    show ∃ σ', (σ'.1 14 = nrow (if (pl 1 10).testBit p then fBs pl b p (fAs pl b p (fls pl b a p) 3) 3 else fls pl b a p) ∧ fr [14] σ σ') ∧ _
    by_cases e : (pl 1 10).testBit p
    · rw [if_pos e]
      obtain ⟨σ1, g1, g2, g3⟩ := c_flow13 hB hP' hBB h1 (by rw [h3 18 (by decide)]; exact hb) hbb hK1 hq.1 hq.2.1 hq.2.2.1 hq.2.2.2.2
      have hP1 : PC σ1 pl := PC_fr (by decide) g3 hP'
      obtain ⟨⟨u1, u2, u3, u4, u5⟩, u6, u7, u8, u9, u10, u11, u12, u13, u14, u15, u16⟩ := id hP1
      obtain ⟨σ2, g4, g5, g6⟩ := c_flow13 (t := t) (w := w) (d := d) hB hP1 hBB g2 (by rw [g3 18 (by decide), h3 18 (by decide)]; exact hb) hbb (KN_fAs hB hK1 hp 3 (by omega)) hq.2.1 hq.1 (fun e => hq.2.2.1 e.symm) hq.2.2.2.2
      refine ⟨σ2, ⟨g5, fr_t h3 (fr_t g3 g6)⟩, ?_⟩
      simp (disch := omega) only [f_X4_pass_l27, f_X4_pass_j93, jn_e, lt_e, n_1, f2, f4, le_f, bit1', e, if_true, ldI_n, f11, f12, f13, u11, u12, u13, g1, g4, cr_s, nI_add]
    · rw [if_neg e]
      refine ⟨τ, ⟨h1, h3⟩, ?_⟩
      have e := Bool.eq_false_iff.mpr e
      simp (disch := omega) only [f_X4_pass_l27, f_X4_pass_j93, jn_e, lt_e, n_1, f2, f4, le_f, bit1', e, if_false, Bool.false_eq_true, nI_add]
  · rintro τ ⟨h1, h3⟩ K
    have hP' : PC τ pl := PC_fr (by decide) h3 hP
    refine ⟨τ, ?_, h1, h3⟩
    simp (disch := omega) only [f_X4_pass_l27, hP'.1.2.1, le_t]
/-- the pumps -/
theorem c_pumps13 {pl : Nat → Nat → Nat} (hB : PB pl) {σ : Hp} (hP : PC σ pl) {x : (Nat → Nat) × (Nat → Nat)} {w d : Nat → Nat} {B : Nat} (hBB : B < 700000000) (ha : σ.1 14 = nrow x.1) (ht : σ.1 16 = nrow x.2) (hK : KNk B x.1 w x.2 d ∧ TN pl x.2) (k133 : Hp → Option Hp) : ∃ σ', lp (f_X4_pass_l101 13 k133) FU ((0 : Int32), σ) = k133 σ' ∧ σ'.1 14 = nrow (sks pl x (pl 1 11)).1 ∧ σ'.1 16 = nrow (sks pl x (pl 1 11)).2 ∧ fr [14, 16] σ σ' := by
  obtain ⟨⟨b1, b2, b3, b4, b5⟩, b6, b7, b8, b9, b10, b11, b12, b13, b14⟩ := id hB
  refine lp_h (Q := fun r => ∃ σ', r = k133 σ' ∧ σ'.1 14 = nrow (sks pl x (pl 1 11)).1 ∧ σ'.1 16 = nrow (sks pl x (pl 1 11)).2 ∧ fr [14, 16] σ σ') (pl 1 11) (fun p τ => τ.1 14 = nrow (sks pl x p).1 ∧ τ.1 16 = nrow (sks pl x p).2 ∧ fr [14, 16] σ τ) ?_ ?_ (by omega) ⟨ha, ht, fr_0 _ _⟩
  · rintro p τ hp ⟨h1, h2, h3⟩ K
    have hP' : PC τ pl := PC_fr (by decide) h3 hP
    obtain ⟨⟨f1, f2, f3, f4, f5⟩, f6, f7, f8, f9, f10, f11, f12, f13, f14, f15, f16⟩ := id hP'
    have hK1 := KN_sks hB hK p (by omega)
    show ∃ σ', (σ'.1 14 = nrow (if (pl 1 15).testBit p then drs pl p (sks pl x p) 3 else sks pl x p).1 ∧ σ'.1 16 = nrow (if (pl 1 15).testBit p then drs pl p (sks pl x p) 3 else sks pl x p).2 ∧ fr [14, 16] σ σ') ∧ _
    by_cases e : (pl 1 15).testBit p
    · rw [if_pos e]
      obtain ⟨σ1, g1, g2, g3, g4⟩ := c_draw13 hB hP' hBB h1 h2 hK1 hp
      refine ⟨σ1, ⟨g2, g3, fr_t h3 g4⟩, ?_⟩
      simp (disch := omega) only [f_X4_pass_l101, f_X4_pass_j127, jn_e, lt_e, n_1, f3, f5, le_f, bit1', e, if_true, g1, cr_s, nI_add]
    · rw [if_neg e]
      refine ⟨τ, ⟨h1, h2, h3⟩, ?_⟩
      have e := Bool.eq_false_iff.mpr e
      simp (disch := omega) only [f_X4_pass_l101, f_X4_pass_j127, jn_e, lt_e, n_1, f3, f5, le_f, bit1', e, if_false, Bool.false_eq_true, nI_add]
  · rintro τ ⟨h1, h2, h3⟩ K
    have hP' : PC τ pl := PC_fr (by decide) h3 hP
    refine ⟨τ, ?_, h1, h2, h3⟩
    simp (disch := omega) only [f_X4_pass_l101, hP'.1.2.2.1, le_t]
/-- the traps that are warmed -/
theorem c_backs13 {pl : Nat → Nat → Nat} (hB : PB pl) {σ : Hp} (hP : PC σ pl) {x : ((Nat → Nat) × (Nat → Nat)) × Nat} {w d : Nat → Nat} {B : Nat} (hBB : B < 700000000) (ha : σ.1 14 = nrow x.1.1) (ht : σ.1 16 = nrow x.1.2) (hm : σ.1 13 1 = nI x.2) (hm8 : x.2 < 256) (hK : KNk B x.1.1 w x.1.2 d ∧ TN pl x.1.2) (k167 : Hp → Option Hp) : ∃ σ', lp (f_X4_pass_l135 13 k167) FU ((0 : Int32), σ) = k167 σ' ∧ σ'.1 14 = nrow (bks pl x (pl 1 11)).1.1 ∧ σ'.1 16 = nrow (bks pl x (pl 1 11)).1.2 ∧ σ'.1 13 1 = nI (bks pl x (pl 1 11)).2 ∧ σ'.1 13 0 = σ.1 13 0 ∧ fr [13, 14, 16] σ σ' := by
  obtain ⟨⟨b1, b2, b3, b4, b5⟩, b6, b7, b8, b9, b10, b11, b12, b13, b14⟩ := id hB
  refine lp_h (Q := fun r => ∃ σ', r = k167 σ' ∧ σ'.1 14 = nrow (bks pl x (pl 1 11)).1.1 ∧ σ'.1 16 = nrow (bks pl x (pl 1 11)).1.2 ∧ σ'.1 13 1 = nI (bks pl x (pl 1 11)).2 ∧ σ'.1 13 0 = σ.1 13 0 ∧ fr [13, 14, 16] σ σ') (pl 1 11) (fun p τ => τ.1 14 = nrow (bks pl x p).1.1 ∧ τ.1 16 = nrow (bks pl x p).1.2 ∧ τ.1 13 1 = nI (bks pl x p).2 ∧ (bks pl x p).2 < 256 ∧ τ.1 13 0 = σ.1 13 0 ∧ fr [13, 14, 16] σ τ) ?_ ?_ (by omega) ⟨ha, ht, hm, hm8, rfl, fr_0 _ _⟩
  · rintro p τ hp ⟨h1, h2, h4, h5, h6, h3⟩ K
    have hP' : PC τ pl := PC_fr (by decide) h3 hP
    obtain ⟨⟨f1, f2, f3, f4, f5⟩, f6, f7, f8, f9, f10, f11, f12, f13, f14, f15, f16⟩ := id hP'
    have hK1 := KN_bks hB hK p (by omega)
    have eu : bks pl x (p + 1) = if (bks pl x p).2.testBit p then (gbs pl p (bks pl x p).1 3, if hdN (gbs pl p (bks pl x p).1 3).2 p = 0 then (bks pl x p).2 - 2 ^ p else (bks pl x p).2) else bks pl x p := rfl
    rw [eu]
    generalize bks pl x p = y at h1 h2 h4 h5 hK1 ⊢
    by_cases e : y.2.testBit p
    · rw [if_pos e]
      obtain ⟨σ1, g1, g2, g3, g4, g5, g6⟩ := c_back13 hB hP' hBB h1 h2 h4 h5 hK1 hp e
      refine ⟨σ1, ⟨g2, g3, g4, ?_, by rw [g5, h6], fr_t h3 g6⟩, ?_⟩
      · show (if _ then _ else _) < 256
        split
        · exact Nat.lt_of_le_of_lt (Nat.sub_le _ _) h5
        · exact h5
      · simp (disch := omega) only [f_X4_pass_l135, f_X4_pass_j161, jn_e, lt_e, n_1, f3, h4, le_f, bit1', e, if_true, g1, cr_s, nI_add]
    · rw [if_neg e]
      refine ⟨τ, ⟨h1, h2, h4, h5, h6, h3⟩, ?_⟩
      have e := Bool.eq_false_iff.mpr e
      simp (disch := omega) only [f_X4_pass_l135, f_X4_pass_j161, jn_e, lt_e, n_1, f3, h4, le_f, bit1', e, if_false, Bool.false_eq_true, nI_add]
  · rintro τ ⟨h1, h2, h4, h5, h6, h3⟩ K
    have hP' : PC τ pl := PC_fr (by decide) h3 hP
    refine ⟨τ, ?_, h1, h2, h4, h6, h3⟩
    simp (disch := omega) only [f_X4_pass_l135, hP'.1.2.2.1, le_t]
/-- a tick of the class -/
theorem c_pass13 {pl : Nat → Nat → Nat} (hB : PB pl) {σ : Hp} (hP : PC σ pl) {x : GS} {B k : Nat} (hBB : B + 4995 < 700000000) (hG : GC 13 σ x) (hN : NI pl B x) (hk : σ.1 13 0 = nI k) : ∃ σ', f_X4_pass 13 σ = some σ' ∧ GC 13 σ' (nps pl x) ∧ σ'.1 13 0 = nI (k + 1) ∧ fr [13, 14, 15, 16, 17, 18] σ σ' := by
  obtain ⟨⟨b1, b2, b3, b4, b5⟩, b6, b7, b8, b9, b10, b11, b12, b13, b14⟩ := id hB
  obtain ⟨G1, G2, G3, G4, G5⟩ := hG
  obtain ⟨⟨N1, N2⟩, N3⟩ := hN
  obtain ⟨σ1, o1, o2, o3, o4⟩ := c_off13 hB hP G1 G2 (fun k hk => by have := KN_w N1 hk; omega)
  have P1 : PC σ1 pl := PC_fr (by decide) o4 hP
  have K1 := KN_off hB N1 (3 * pl 1 0) (by omega)
  obtain ⟨σ2, l1, l2, l3, l4⟩ := c_leak13 hB P1 o2 (show σ1.1 17 = nrow x.2.2.1 by rw [o4 17 (by decide)]; exact G4)
  have P2 : PC σ2 pl := PC_fr (by decide) l4 P1
  have K2 := KN_leak' hB K1 (q := 3 * pl 1 0) (by omega)
  generalize ea : aL pl (aO pl x.2.1 x.1.1 (3 * pl 1 0)) (3 * pl 1 0) = a1 at l2 K2
  have P3 : PC (sR σ2 18 (va_cpy (σ2.1 14) (σ2.1 18) 0 0 15)) pl := PC_fr (l := [18]) (by decide) (fr_r (by decide) (fr_0 _ _)) P2
  obtain ⟨σ4, p1, p2, p3⟩ := c_pipes13 (b := a1) hB P3 (by omega) (show (sR σ2 18 (va_cpy (σ2.1 14) (σ2.1 18) 0 0 15)).1 14 = nrow a1 from l2) (fun k hk => by
    show va_cpy (σ2.1 14) (σ2.1 18) 0 0 15 k = _
    rw [cpy_at hk, l2, nrow_at]) (fun k hk => by have := KN_a K2 hk; omega) K2 (f_X4_pass_j99 13)
  have P4 : PC σ4 pl := PC_fr (by decide) p3 P3
  have K4 := KN_fls (b := a1) hB K2 (pl 1 6) (Nat.le_refl _)
  have T4 : σ4.1 16 = nrow x.1.2 := by
    rw [p3 16 (by decide)]
    show σ2.1 16 = _
    rw [l4 16 (by decide), o4 16 (by decide)]
    exact G3
  obtain ⟨σ5, q1, q2, q3, q4⟩ := c_pumps13 (x := (fls pl a1 a1 (pl 1 6), x.1.2)) hB P4 (by omega) p2 T4 ⟨K4, N2⟩ (f_X4_pass_j133 13)
  have P5 : PC σ5 pl := PC_fr (by decide) q4 P4
  have K5 := KN_sks hB (x := (fls pl a1 a1 (pl 1 6), x.1.2)) ⟨K4, N2⟩ (pl 1 11) (Nat.le_refl _)
  have M5 : σ5.1 13 = σ.1 13 := by
    rw [q4 13 (by decide), p3 13 (by decide)]
    show σ2.1 13 = _
    rw [l4 13 (by decide), o4 13 (by decide)]
  obtain ⟨σ6, r1, r2, r3, r4, r5, r6⟩ := c_backs13 (x := (sks pl (fls pl a1 a1 (pl 1 6), x.1.2) (pl 1 11), x.2.2.2)) hB P5 (by omega) q2 q3 (by rw [M5]; exact G5) (by show x.2.2.2 < 256; omega) K5 (f_X4_pass_j167 13)
  refine ⟨sI σ6 13 0 (nI (k + 1)), ?_, ⟨?_, ?_, ?_, ?_, ?_⟩, rfl, ?_⟩
  · unfold f_X4_pass
    rw [o1, cr_s, l1, cr_s]
    rw [show (15 : Int32) = nI 15 from rfl, cpI_n (by omega), jn_e, p1]
    unfold f_X4_pass_j99
    rw [jn_e, q1]
    unfold f_X4_pass_j133
    rw [jn_e, r1]
    unfold f_X4_pass_j167
    rw [lt_e, r5, M5, hk, nI_1]
  · show σ6.1 14 = _
    rw [r2]
    unfold nps
    rw [ea]
  · show σ6.1 15 = _
    rw [r6 15 (by decide), q4 15 (by decide), p3 15 (by decide)]
    show σ2.1 15 = _
    rw [l4 15 (by decide), o3]
    rfl
  · show σ6.1 16 = _
    rw [r3]
    unfold nps
    rw [ea]
  · show σ6.1 17 = _
    rw [r6 17 (by decide), q4 17 (by decide), p3 17 (by decide)]
    show σ2.1 17 = _
    rw [l3]
    rfl
  · show σ6.1 13 1 = _
    rw [r4]
    unfold nps
    rw [ea]
  · exact fr_s (by decide) (fr_t (fr_t (fr_t (fr_t (fr_t (fr_m (by decide) o4) (fr_m (by decide) l4)) (fr_r (by decide) (fr_0 _ _))) (fr_m (by decide) p3)) (fr_m (by decide) q4)) (fr_m (by decide) r6))
/-- the pipes -/
theorem c_pipes19 {pl : Nat → Nat → Nat} (hB : PB pl) {σ : Hp} (hP : PC σ pl) {a b w t d : Nat → Nat} {B : Nat} (hBB : B < 700000000) (ha : σ.1 20 = nrow a) (hb : ∀ k, k < 15 → σ.1 24 k = nI (b k)) (hbb : ∀ k, k < 15 → b k < 2147483648) (hK : KNk B a w t d) (k99 : Hp → Option Hp) : ∃ σ', lp (f_X4_pass_l27 19 k99) FU ((0 : Int32), σ) = k99 σ' ∧ σ'.1 20 = nrow (fls pl b a (pl 1 6)) ∧ fr [20] σ σ' := by
  obtain ⟨⟨b1, b2, b3, b4, b5⟩, b6, b7, b8, b9, b10, b11, b12, b13, b14⟩ := id hB
  refine lp_h (Q := fun r => ∃ σ', r = k99 σ' ∧ σ'.1 20 = nrow (fls pl b a (pl 1 6)) ∧ fr [20] σ σ') (pl 1 6) (fun p τ => τ.1 20 = nrow (fls pl b a p) ∧ fr [20] σ τ) ?_ ?_ (by omega) ⟨ha, fr_0 _ _⟩
  · rintro p τ hp ⟨h1, h3⟩ K
    have hP' : PC τ pl := PC_fr (by decide) h3 hP
    obtain ⟨⟨f1, f2, f3, f4, f5⟩, f6, f7, f8, f9, f10, f11, f12, f13, f14, f15, f16⟩ := id hP'
    have hK1 := KN_fls (b := b) hB hK p (by omega)
    have hq := b11 p hp
    show ∃ σ', (σ'.1 20 = nrow (if (pl 1 10).testBit p then fBs pl b p (fAs pl b p (fls pl b a p) 3) 3 else fls pl b a p) ∧ fr [20] σ σ') ∧ _
    by_cases e : (pl 1 10).testBit p
    · rw [if_pos e]
      obtain ⟨σ1, g1, g2, g3⟩ := c_flow19 hB hP' hBB h1 (by rw [h3 24 (by decide)]; exact hb) hbb hK1 hq.1 hq.2.1 hq.2.2.1 hq.2.2.2.2
      have hP1 : PC σ1 pl := PC_fr (by decide) g3 hP'
      obtain ⟨⟨u1, u2, u3, u4, u5⟩, u6, u7, u8, u9, u10, u11, u12, u13, u14, u15, u16⟩ := id hP1
      obtain ⟨σ2, g4, g5, g6⟩ := c_flow19 (t := t) (w := w) (d := d) hB hP1 hBB g2 (by rw [g3 24 (by decide), h3 24 (by decide)]; exact hb) hbb (KN_fAs hB hK1 hp 3 (by omega)) hq.2.1 hq.1 (fun e => hq.2.2.1 e.symm) hq.2.2.2.2
      refine ⟨σ2, ⟨g5, fr_t h3 (fr_t g3 g6)⟩, ?_⟩
      simp (disch := omega) only [f_X4_pass_l27, f_X4_pass_j93, jn_e, lt_e, n_1, f2, f4, le_f, bit1', e, if_true, ldI_n, f11, f12, f13, u11, u12, u13, g1, g4, cr_s, nI_add]
    · rw [if_neg e]
      refine ⟨τ, ⟨h1, h3⟩, ?_⟩
      have e := Bool.eq_false_iff.mpr e
      simp (disch := omega) only [f_X4_pass_l27, f_X4_pass_j93, jn_e, lt_e, n_1, f2, f4, le_f, bit1', e, if_false, Bool.false_eq_true, nI_add]
  · rintro τ ⟨h1, h3⟩ K
    have hP' : PC τ pl := PC_fr (by decide) h3 hP
    refine ⟨τ, ?_, h1, h3⟩
    simp (disch := omega) only [f_X4_pass_l27, hP'.1.2.1, le_t]
/-- the pumps -/
theorem c_pumps19 {pl : Nat → Nat → Nat} (hB : PB pl) {σ : Hp} (hP : PC σ pl) {x : (Nat → Nat) × (Nat → Nat)} {w d : Nat → Nat} {B : Nat} (hBB : B < 700000000) (ha : σ.1 20 = nrow x.1) (ht : σ.1 22 = nrow x.2) (hK : KNk B x.1 w x.2 d ∧ TN pl x.2) (k133 : Hp → Option Hp) : ∃ σ', lp (f_X4_pass_l101 19 k133) FU ((0 : Int32), σ) = k133 σ' ∧ σ'.1 20 = nrow (sks pl x (pl 1 11)).1 ∧ σ'.1 22 = nrow (sks pl x (pl 1 11)).2 ∧ fr [20, 22] σ σ' := by
  obtain ⟨⟨b1, b2, b3, b4, b5⟩, b6, b7, b8, b9, b10, b11, b12, b13, b14⟩ := id hB
  refine lp_h (Q := fun r => ∃ σ', r = k133 σ' ∧ σ'.1 20 = nrow (sks pl x (pl 1 11)).1 ∧ σ'.1 22 = nrow (sks pl x (pl 1 11)).2 ∧ fr [20, 22] σ σ') (pl 1 11) (fun p τ => τ.1 20 = nrow (sks pl x p).1 ∧ τ.1 22 = nrow (sks pl x p).2 ∧ fr [20, 22] σ τ) ?_ ?_ (by omega) ⟨ha, ht, fr_0 _ _⟩
  · rintro p τ hp ⟨h1, h2, h3⟩ K
    have hP' : PC τ pl := PC_fr (by decide) h3 hP
    obtain ⟨⟨f1, f2, f3, f4, f5⟩, f6, f7, f8, f9, f10, f11, f12, f13, f14, f15, f16⟩ := id hP'
    have hK1 := KN_sks hB hK p (by omega)
    show ∃ σ', (σ'.1 20 = nrow (if (pl 1 15).testBit p then drs pl p (sks pl x p) 3 else sks pl x p).1 ∧ σ'.1 22 = nrow (if (pl 1 15).testBit p then drs pl p (sks pl x p) 3 else sks pl x p).2 ∧ fr [20, 22] σ σ') ∧ _
    by_cases e : (pl 1 15).testBit p
    · rw [if_pos e]
      obtain ⟨σ1, g1, g2, g3, g4⟩ := c_draw19 hB hP' hBB h1 h2 hK1 hp
      refine ⟨σ1, ⟨g2, g3, fr_t h3 g4⟩, ?_⟩
      simp (disch := omega) only [f_X4_pass_l101, f_X4_pass_j127, jn_e, lt_e, n_1, f3, f5, le_f, bit1', e, if_true, g1, cr_s, nI_add]
    · rw [if_neg e]
      refine ⟨τ, ⟨h1, h2, h3⟩, ?_⟩
      have e := Bool.eq_false_iff.mpr e
      simp (disch := omega) only [f_X4_pass_l101, f_X4_pass_j127, jn_e, lt_e, n_1, f3, f5, le_f, bit1', e, if_false, Bool.false_eq_true, nI_add]
  · rintro τ ⟨h1, h2, h3⟩ K
    have hP' : PC τ pl := PC_fr (by decide) h3 hP
    refine ⟨τ, ?_, h1, h2, h3⟩
    simp (disch := omega) only [f_X4_pass_l101, hP'.1.2.2.1, le_t]
/-- the traps that are warmed -/
theorem c_backs19 {pl : Nat → Nat → Nat} (hB : PB pl) {σ : Hp} (hP : PC σ pl) {x : ((Nat → Nat) × (Nat → Nat)) × Nat} {w d : Nat → Nat} {B : Nat} (hBB : B < 700000000) (ha : σ.1 20 = nrow x.1.1) (ht : σ.1 22 = nrow x.1.2) (hm : σ.1 19 1 = nI x.2) (hm8 : x.2 < 256) (hK : KNk B x.1.1 w x.1.2 d ∧ TN pl x.1.2) (k167 : Hp → Option Hp) : ∃ σ', lp (f_X4_pass_l135 19 k167) FU ((0 : Int32), σ) = k167 σ' ∧ σ'.1 20 = nrow (bks pl x (pl 1 11)).1.1 ∧ σ'.1 22 = nrow (bks pl x (pl 1 11)).1.2 ∧ σ'.1 19 1 = nI (bks pl x (pl 1 11)).2 ∧ σ'.1 19 0 = σ.1 19 0 ∧ fr [19, 20, 22] σ σ' := by
  obtain ⟨⟨b1, b2, b3, b4, b5⟩, b6, b7, b8, b9, b10, b11, b12, b13, b14⟩ := id hB
  refine lp_h (Q := fun r => ∃ σ', r = k167 σ' ∧ σ'.1 20 = nrow (bks pl x (pl 1 11)).1.1 ∧ σ'.1 22 = nrow (bks pl x (pl 1 11)).1.2 ∧ σ'.1 19 1 = nI (bks pl x (pl 1 11)).2 ∧ σ'.1 19 0 = σ.1 19 0 ∧ fr [19, 20, 22] σ σ') (pl 1 11) (fun p τ => τ.1 20 = nrow (bks pl x p).1.1 ∧ τ.1 22 = nrow (bks pl x p).1.2 ∧ τ.1 19 1 = nI (bks pl x p).2 ∧ (bks pl x p).2 < 256 ∧ τ.1 19 0 = σ.1 19 0 ∧ fr [19, 20, 22] σ τ) ?_ ?_ (by omega) ⟨ha, ht, hm, hm8, rfl, fr_0 _ _⟩
  · rintro p τ hp ⟨h1, h2, h4, h5, h6, h3⟩ K
    have hP' : PC τ pl := PC_fr (by decide) h3 hP
    obtain ⟨⟨f1, f2, f3, f4, f5⟩, f6, f7, f8, f9, f10, f11, f12, f13, f14, f15, f16⟩ := id hP'
    have hK1 := KN_bks hB hK p (by omega)
    have eu : bks pl x (p + 1) = if (bks pl x p).2.testBit p then (gbs pl p (bks pl x p).1 3, if hdN (gbs pl p (bks pl x p).1 3).2 p = 0 then (bks pl x p).2 - 2 ^ p else (bks pl x p).2) else bks pl x p := rfl
    rw [eu]
    generalize bks pl x p = y at h1 h2 h4 h5 hK1 ⊢
    by_cases e : y.2.testBit p
    · rw [if_pos e]
      obtain ⟨σ1, g1, g2, g3, g4, g5, g6⟩ := c_back19 hB hP' hBB h1 h2 h4 h5 hK1 hp e
      refine ⟨σ1, ⟨g2, g3, g4, ?_, by rw [g5, h6], fr_t h3 g6⟩, ?_⟩
      · show (if _ then _ else _) < 256
        split
        · exact Nat.lt_of_le_of_lt (Nat.sub_le _ _) h5
        · exact h5
      · simp (disch := omega) only [f_X4_pass_l135, f_X4_pass_j161, jn_e, lt_e, n_1, f3, h4, le_f, bit1', e, if_true, g1, cr_s, nI_add]
    · rw [if_neg e]
      refine ⟨τ, ⟨h1, h2, h4, h5, h6, h3⟩, ?_⟩
      have e := Bool.eq_false_iff.mpr e
      simp (disch := omega) only [f_X4_pass_l135, f_X4_pass_j161, jn_e, lt_e, n_1, f3, h4, le_f, bit1', e, if_false, Bool.false_eq_true, nI_add]
  · rintro τ ⟨h1, h2, h4, h5, h6, h3⟩ K
    have hP' : PC τ pl := PC_fr (by decide) h3 hP
    refine ⟨τ, ?_, h1, h2, h4, h6, h3⟩
    simp (disch := omega) only [f_X4_pass_l135, hP'.1.2.2.1, le_t]
/-- a tick of the class -/
theorem c_pass19 {pl : Nat → Nat → Nat} (hB : PB pl) {σ : Hp} (hP : PC σ pl) {x : GS} {B k : Nat} (hBB : B + 4995 < 700000000) (hG : GC 19 σ x) (hN : NI pl B x) (hk : σ.1 19 0 = nI k) : ∃ σ', f_X4_pass 19 σ = some σ' ∧ GC 19 σ' (nps pl x) ∧ σ'.1 19 0 = nI (k + 1) ∧ fr [19, 20, 21, 22, 23, 24] σ σ' := by
  obtain ⟨⟨b1, b2, b3, b4, b5⟩, b6, b7, b8, b9, b10, b11, b12, b13, b14⟩ := id hB
  obtain ⟨G1, G2, G3, G4, G5⟩ := hG
  obtain ⟨⟨N1, N2⟩, N3⟩ := hN
  obtain ⟨σ1, o1, o2, o3, o4⟩ := c_off19 hB hP G1 G2 (fun k hk => by have := KN_w N1 hk; omega)
  have P1 : PC σ1 pl := PC_fr (by decide) o4 hP
  have K1 := KN_off hB N1 (3 * pl 1 0) (by omega)
  obtain ⟨σ2, l1, l2, l3, l4⟩ := c_leak19 hB P1 o2 (show σ1.1 23 = nrow x.2.2.1 by rw [o4 23 (by decide)]; exact G4)
  have P2 : PC σ2 pl := PC_fr (by decide) l4 P1
  have K2 := KN_leak' hB K1 (q := 3 * pl 1 0) (by omega)
  generalize ea : aL pl (aO pl x.2.1 x.1.1 (3 * pl 1 0)) (3 * pl 1 0) = a1 at l2 K2
  have P3 : PC (sR σ2 24 (va_cpy (σ2.1 20) (σ2.1 24) 0 0 15)) pl := PC_fr (l := [24]) (by decide) (fr_r (by decide) (fr_0 _ _)) P2
  obtain ⟨σ4, p1, p2, p3⟩ := c_pipes19 (b := a1) hB P3 (by omega) (show (sR σ2 24 (va_cpy (σ2.1 20) (σ2.1 24) 0 0 15)).1 20 = nrow a1 from l2) (fun k hk => by
    show va_cpy (σ2.1 20) (σ2.1 24) 0 0 15 k = _
    rw [cpy_at hk, l2, nrow_at]) (fun k hk => by have := KN_a K2 hk; omega) K2 (f_X4_pass_j99 19)
  have P4 : PC σ4 pl := PC_fr (by decide) p3 P3
  have K4 := KN_fls (b := a1) hB K2 (pl 1 6) (Nat.le_refl _)
  have T4 : σ4.1 22 = nrow x.1.2 := by
    rw [p3 22 (by decide)]
    show σ2.1 22 = _
    rw [l4 22 (by decide), o4 22 (by decide)]
    exact G3
  obtain ⟨σ5, q1, q2, q3, q4⟩ := c_pumps19 (x := (fls pl a1 a1 (pl 1 6), x.1.2)) hB P4 (by omega) p2 T4 ⟨K4, N2⟩ (f_X4_pass_j133 19)
  have P5 : PC σ5 pl := PC_fr (by decide) q4 P4
  have K5 := KN_sks hB (x := (fls pl a1 a1 (pl 1 6), x.1.2)) ⟨K4, N2⟩ (pl 1 11) (Nat.le_refl _)
  have M5 : σ5.1 19 = σ.1 19 := by
    rw [q4 19 (by decide), p3 19 (by decide)]
    show σ2.1 19 = _
    rw [l4 19 (by decide), o4 19 (by decide)]
  obtain ⟨σ6, r1, r2, r3, r4, r5, r6⟩ := c_backs19 (x := (sks pl (fls pl a1 a1 (pl 1 6), x.1.2) (pl 1 11), x.2.2.2)) hB P5 (by omega) q2 q3 (by rw [M5]; exact G5) (by show x.2.2.2 < 256; omega) K5 (f_X4_pass_j167 19)
  refine ⟨sI σ6 19 0 (nI (k + 1)), ?_, ⟨?_, ?_, ?_, ?_, ?_⟩, rfl, ?_⟩
  · unfold f_X4_pass
    rw [o1, cr_s, l1, cr_s]
    rw [show (15 : Int32) = nI 15 from rfl, cpI_n (by omega), jn_e, p1]
    unfold f_X4_pass_j99
    rw [jn_e, q1]
    unfold f_X4_pass_j133
    rw [jn_e, r1]
    unfold f_X4_pass_j167
    rw [lt_e, r5, M5, hk, nI_1]
  · show σ6.1 20 = _
    rw [r2]
    unfold nps
    rw [ea]
  · show σ6.1 21 = _
    rw [r6 21 (by decide), q4 21 (by decide), p3 21 (by decide)]
    show σ2.1 21 = _
    rw [l4 21 (by decide), o3]
    rfl
  · show σ6.1 22 = _
    rw [r3]
    unfold nps
    rw [ea]
  · show σ6.1 23 = _
    rw [r6 23 (by decide), q4 23 (by decide), p3 23 (by decide)]
    show σ2.1 23 = _
    rw [l3]
    rfl
  · show σ6.1 19 1 = _
    rw [r4]
    unfold nps
    rw [ea]
  · exact fr_s (by decide) (fr_t (fr_t (fr_t (fr_t (fr_t (fr_m (by decide) o4) (fr_m (by decide) l4)) (fr_r (by decide) (fr_0 _ _))) (fr_m (by decide) p3)) (fr_m (by decide) q4)) (fr_m (by decide) r6))
