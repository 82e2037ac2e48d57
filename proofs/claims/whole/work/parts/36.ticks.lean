/-! ===== many ticks ===== -/
def nit (pl : Nat → Nat → Nat) (x : GS) : Nat → GS
  | 0 => x
  | i + 1 => nps pl (nit pl x i)
theorem bks_m {pl : Nat → Nat → Nat} (hq : pl 1 11 ≤ 8) {x : ((Nat → Nat) × (Nat → Nat)) × Nat} (h1 : x.2 < 256) (h2 : WN pl x.2) : ∀ p, p ≤ pl 1 11 → (bks pl x p).2 < 256 ∧ WN pl (bks pl x p).2 ∧ ∀ k, (bks pl x p).2.testBit k = true → x.2.testBit k = true
  | 0, _ => ⟨h1, h2, fun k h => h⟩
  | p + 1, hp => by
    obtain ⟨a1, a2, a3⟩ := bks_m hq h1 h2 p (by omega)
    have eu : bks pl x (p + 1) = if (bks pl x p).2.testBit p then (gbs pl p (bks pl x p).1 3, if hdN (gbs pl p (bks pl x p).1 3).2 p = 0 then (bks pl x p).2 - 2 ^ p else (bks pl x p).2) else bks pl x p := rfl
    rw [eu]
    by_cases e : (bks pl x p).2.testBit p
    · rw [if_pos e]
      by_cases e2 : hdN (gbs pl p (bks pl x p).1 3).2 p = 0
      · rw [if_pos e2]
        refine ⟨Nat.lt_of_le_of_lt (Nat.sub_le _ _) a1, WN_clr a1 (by omega) e a2, fun k hk => a3 k ?_⟩
        have hk : ((bks pl x p).2 - 2 ^ p).testBit k = true := hk
        rcases Nat.lt_or_ge k 8 with h | h
        · rw [(clrC _ a1 p (by omega) e).2 k h, Bool.and_eq_true] at hk
          exact hk.1
        · rw [tb_big (b := 8) (Nat.lt_of_le_of_lt (Nat.sub_le _ _) a1) h] at hk
          cases hk
      · rw [if_neg e2]
        exact ⟨a1, a2, a3⟩
    · rw [if_neg e]
      exact ⟨a1, a2, a3⟩
theorem nps_ok {pl : Nat → Nat → Nat} (hB : PB pl) {B : Nat} {x : GS} (h : NI pl B x) (hW : WN pl x.2.2.2) : NI pl (B + 4995) (nps pl x) ∧ WN pl (nps pl x).2.2.2 ∧ ∀ k, (nps pl x).2.2.2.testBit k = true → x.2.2.2.testBit k = true := by
  have h1 := NI_nps hB h
  have h2 := bks_m (pl := pl) hB.1.2.2.1 (x := (sks pl (fls pl (aL pl (aO pl x.2.1 x.1.1 (3 * pl 1 0)) (3 * pl 1 0)) (aL pl (aO pl x.2.1 x.1.1 (3 * pl 1 0)) (3 * pl 1 0)) (pl 1 6), x.1.2) (pl 1 11), x.2.2.2)) h.2 hW (pl 1 11) (Nat.le_refl _)
  exact ⟨⟨h1, h2.1⟩, h2.2.1, h2.2.2⟩
theorem nit_ok {pl : Nat → Nat → Nat} (hB : PB pl) {B : Nat} {x : GS} (h : NI pl B x) (hW : WN pl x.2.2.2) : ∀ i, NI pl (B + 4995 * i) (nit pl x i) ∧ WN pl (nit pl x i).2.2.2 ∧ ∀ k, (nit pl x i).2.2.2.testBit k = true → x.2.2.2.testBit k = true
  | 0 => ⟨h, hW, fun _ h => h⟩
  | i + 1 => by
    obtain ⟨a1, a2, a3⟩ := nit_ok hB h hW i
    obtain ⟨b1, b2, b3⟩ := nps_ok hB a1 a2
    refine ⟨?_, b2, fun k hk => a3 k (b3 k hk)⟩
    rw [show B + 4995 * (i + 1) = B + 4995 * i + 4995 by omega]
    exact b1
/-! what lies behind the rows that count stays -/
def hiE (x y : GS) : Prop := (∀ k, 15 ≤ k → x.1.1 k = y.1.1 k) ∧ (∀ k, 24 ≤ k → x.1.2 k = y.1.2 k) ∧ (∀ k, 15 ≤ k → x.2.1 k = y.2.1 k) ∧ ∀ k, 3 ≤ k → x.2.2.1 k = y.2.2.1 k
theorem aO_hi {pl : Nat → Nat → Nat} {w a : Nat → Nat} {q k : Nat} (h : q ≤ k) : aO pl w a q k = a k := if_neg (by omega)
theorem wO_hi {pl : Nat → Nat → Nat} {w : Nat → Nat} {q k : Nat} (h : q ≤ k) : wO pl w q k = w k := if_neg (by omega)
theorem aL_hi {pl : Nat → Nat → Nat} {a : Nat → Nat} {q k : Nat} (h : q ≤ k) : aL pl a q k = a k := if_neg (by omega)
theorem dL_hi {pl : Nat → Nat → Nat} {d : Nat → Nat} {k : Nat} (h : 3 ≤ k) : ∀ q, dL pl d q k = d k
  | 0 => rfl
  | q + 1 => by
    show un (dL pl d q) (q % 3) _ k = _
    rw [un_at, if_neg (by omega)]
    exact dL_hi h q
theorem mvs_hi {sh : Nat → Nat} {i j k : Nat} {a : Nat → Nat} (hi : i < 5) (hj : j < 5) (hk : 15 ≤ k) : ∀ g, g ≤ 3 → mvs sh i j a g k = a k
  | 0, _ => rfl
  | g + 1, hg => by
    show mvN (sh g) (3 * i + g) (3 * j + g) (mvs sh i j a g) k = _
    rw [mv_at, if_neg (by omega), if_neg (by omega)]
    exact mvs_hi hi hj hk g (by omega)
theorem fls_hi {pl : Nat → Nat → Nat} (hB : PB pl) {b a : Nat → Nat} {k : Nat} (hk : 15 ≤ k) : ∀ p, p ≤ pl 1 6 → fls pl b a p k = a k
  | 0, _ => rfl
  | p + 1, hp => by
    have h1 := hB.2.2.2.2.2.2.1 p (by omega)
    have h0 := hB.1.1
    unfold fls
    split
    · unfold fBs fAs
      rw [mvs_hi (by omega) (by omega) hk 3 (by omega), mvs_hi (by omega) (by omega) hk 3 (by omega)]
      exact fls_hi hB hk p (by omega)
    · exact fls_hi hB hk p (by omega)
theorem drs_hi {pl : Nat → Nat → Nat} (hB : PB pl) {p : Nat} (hp : p < pl 1 11) {x : (Nat → Nat) × (Nat → Nat)} : ∀ g, g ≤ 3 → (∀ k, 15 ≤ k → (drs pl p x g).1 k = x.1 k) ∧ ∀ k, 24 ≤ k → (drs pl p x g).2 k = x.2 k
  | 0, _ => ⟨fun _ _ => rfl, fun _ _ => rfl⟩
  | g + 1, hg => by
    have h1 := hB.2.2.2.2.2.2.2.1 p hp
    have h0 := hB.1.1
    have h2 := hB.1.2.2.1
    obtain ⟨a1, a2⟩ := drs_hi hB hp (x := x) g (by omega)
    constructor
    · intro k hk
      show un (drs pl p x g).1 _ _ k = _
      rw [un_at, if_neg (by omega)]
      exact a1 k hk
    · intro k hk
      show un (drs pl p x g).2 _ _ k = _
      rw [un_at, if_neg (by omega)]
      exact a2 k hk
theorem sks_hi {pl : Nat → Nat → Nat} (hB : PB pl) {x : (Nat → Nat) × (Nat → Nat)} : ∀ p, p ≤ pl 1 11 → (∀ k, 15 ≤ k → (sks pl x p).1 k = x.1 k) ∧ ∀ k, 24 ≤ k → (sks pl x p).2 k = x.2 k
  | 0, _ => ⟨fun _ _ => rfl, fun _ _ => rfl⟩
  | p + 1, hp => by
    obtain ⟨a1, a2⟩ := sks_hi hB (x := x) p (by omega)
    unfold sks
    split
    · obtain ⟨b1, b2⟩ := drs_hi hB (x := sks pl x p) (show p < pl 1 11 by omega) 3 (by omega)
      exact ⟨fun k hk => (b1 k hk).trans (a1 k hk), fun k hk => (b2 k hk).trans (a2 k hk)⟩
    · exact ⟨a1, a2⟩
theorem gbs_hi {pl : Nat → Nat → Nat} (hB : PB pl) {p : Nat} (hp : p < pl 1 11) {x : (Nat → Nat) × (Nat → Nat)} : ∀ g, g ≤ 3 → (∀ k, 15 ≤ k → (gbs pl p x g).1 k = x.1 k) ∧ ∀ k, 24 ≤ k → (gbs pl p x g).2 k = x.2 k
  | 0, _ => ⟨fun _ _ => rfl, fun _ _ => rfl⟩
  | g + 1, hg => by
    have h1 := hB.2.2.2.2.2.2.2.1 p hp
    have h0 := hB.1.1
    have h2 := hB.1.2.2.1
    obtain ⟨a1, a2⟩ := gbs_hi hB hp (x := x) g (by omega)
    constructor
    · intro k hk
      show un (gbs pl p x g).1 _ _ k = _
      rw [un_at, if_neg (by omega)]
      exact a1 k hk
    · intro k hk
      show un (gbs pl p x g).2 _ _ k = _
      rw [un_at, if_neg (by omega)]
      exact a2 k hk
theorem bks_hi {pl : Nat → Nat → Nat} (hB : PB pl) {x : ((Nat → Nat) × (Nat → Nat)) × Nat} : ∀ p, p ≤ pl 1 11 → (∀ k, 15 ≤ k → (bks pl x p).1.1 k = x.1.1 k) ∧ ∀ k, 24 ≤ k → (bks pl x p).1.2 k = x.1.2 k
  | 0, _ => ⟨fun _ _ => rfl, fun _ _ => rfl⟩
  | p + 1, hp => by
    obtain ⟨a1, a2⟩ := bks_hi hB (x := x) p (by omega)
    unfold bks
    split
    · obtain ⟨b1, b2⟩ := gbs_hi hB (x := (bks pl x p).1) (show p < pl 1 11 by omega) 3 (by omega)
      exact ⟨fun k hk => (b1 k hk).trans (a1 k hk), fun k hk => (b2 k hk).trans (a2 k hk)⟩
    · exact ⟨a1, a2⟩
theorem nps_hi {pl : Nat → Nat → Nat} (hB : PB pl) (x : GS) : hiE (nps pl x) x := by
  have h0 := hB.1.1
  obtain ⟨b1, b2⟩ := bks_hi hB (x := (sks pl (fls pl (aL pl (aO pl x.2.1 x.1.1 (3 * pl 1 0)) (3 * pl 1 0)) (aL pl (aO pl x.2.1 x.1.1 (3 * pl 1 0)) (3 * pl 1 0)) (pl 1 6), x.1.2) (pl 1 11), x.2.2.2)) (pl 1 11) (Nat.le_refl _)
  obtain ⟨s1, s2⟩ := sks_hi hB (x := (fls pl (aL pl (aO pl x.2.1 x.1.1 (3 * pl 1 0)) (3 * pl 1 0)) (aL pl (aO pl x.2.1 x.1.1 (3 * pl 1 0)) (3 * pl 1 0)) (pl 1 6), x.1.2)) (pl 1 11) (Nat.le_refl _)
  refine ⟨fun k hk => ?_, fun k hk => (b2 k hk).trans (s2 k hk), fun k hk => wO_hi (by omega), fun k hk => dL_hi hk _⟩
  refine (b1 k hk).trans ((s1 k hk).trans ?_)
  show fls pl _ _ (pl 1 6) k = _
  rw [fls_hi hB hk _ (Nat.le_refl _), aL_hi (by omega), aO_hi (by omega)]
theorem nit_hi {pl : Nat → Nat → Nat} (hB : PB pl) (x : GS) : ∀ i, hiE (nit pl x i) x
  | 0 => ⟨fun _ _ => rfl, fun _ _ => rfl, fun _ _ => rfl, fun _ _ => rfl⟩
  | i + 1 => by
    obtain ⟨a1, a2, a3, a4⟩ := nit_hi hB x i
    obtain ⟨b1, b2, b3, b4⟩ := nps_hi hB (nit pl x i)
    exact ⟨fun k hk => (b1 k hk).trans (a1 k hk), fun k hk => (b2 k hk).trans (a2 k hk), fun k hk => (b3 k hk).trans (a3 k hk), fun k hk => (b4 k hk).trans (a4 k hk)⟩
/-- what a tick of the model leaves -/
def FM (τ τ' : Hp) : Prop := fr [86, 99, 100, 101, 102, 103, 106, 107, 108] τ τ' ∧ ∀ j, j ≠ 23 → τ'.1 86 j = τ.1 86 j
theorem FM_0 (τ : Hp) : FM τ τ := ⟨fr_0 _ _, fun _ _ => rfl⟩
theorem FM_t {τ τ' τ'' : Hp} (h : FM τ τ') (h' : FM τ' τ'') : FM τ τ'' := ⟨fr_t h.1 h'.1, fun j hj => (h'.2 j hj).trans (h.2 j hj)⟩
theorem FM_p {τ τ' : Hp} {v : Int32} (h : fr [99, 100, 101, 102, 103, 106, 107, 108] τ τ') : FM τ (sI τ' 86 23 v) := by
  refine ⟨fr_s (by decide) (fr_m (by decide) h), fun j hj => ?_⟩
  show upd (τ'.1 86) 23 v j = _
  rw [pk_un hj, h 86 (by decide)]
theorem PM_fm {τ τ' : Hp} {pl : Nat → Nat → Nat} (h : FM τ τ') (hP : PM τ pl) : PM τ' pl := by
  obtain ⟨⟨e1, e2, e3, e4, e5⟩, e6⟩ := hP
  refine ⟨⟨by rw [h.2 20 (by decide)]; exact e1, by rw [h.2 21 (by decide)]; exact e2, by rw [h.2 22 (by decide)]; exact e3, by rw [h.1 104 (by decide)]; exact e4, by rw [h.1 105 (by decide)]; exact e5⟩, ?_⟩
  rw [h.1 88 (by decide), h.1 89 (by decide), h.1 90 (by decide), h.1 91 (by decide), h.1 92 (by decide), h.1 93 (by decide), h.1 94 (by decide), h.1 95 (by decide), h.1 96 (by decide), h.1 97 (by decide), h.1 98 (by decide)]
  exact e6
theorem KM_fm {τ τ' : Hp} (h : FM τ τ') : KM τ τ' := ⟨fun a ha => h.1 a (fun hb => by revert ha hb; revert a; decide), fun j hj => h.2 j (fun e => by subst e; revert hj; decide)⟩
theorem c_pass113 {pl : Nat → Nat → Nat} (hB : PB pl) {σ : Hp} (hP : PC σ pl) {x : GS} {B k m i : Nat} (hBB : B + 4995 * m < 700000000) (hi : i < m) (hN : NI pl B x) (hW : WN pl x.2.2.2) (hG : GC 13 σ (nit pl x i)) (hk : σ.1 13 0 = nI (k + i)) : ∃ σ', f_X4_pass 13 σ = some σ' ∧ GC 13 σ' (nit pl x (i + 1)) ∧ σ'.1 13 0 = nI (k + (i + 1)) ∧ fr [13, 14, 15, 16, 17, 18] σ σ' := by
  obtain ⟨a1, a2, a3⟩ := nit_ok hB hN hW i
  have : B + 4995 * i + 4995 ≤ B + 4995 * m := by
    have := Nat.mul_le_mul_left 4995 (show i + 1 ≤ m from hi)
    omega
  exact c_pass13 hB hP (by omega) hG a1 hk
theorem c_pass119 {pl : Nat → Nat → Nat} (hB : PB pl) {σ : Hp} (hP : PC σ pl) {x : GS} {B k m i : Nat} (hBB : B + 4995 * m < 700000000) (hi : i < m) (hN : NI pl B x) (hW : WN pl x.2.2.2) (hG : GC 19 σ (nit pl x i)) (hk : σ.1 19 0 = nI (k + i)) : ∃ σ', f_X4_pass 19 σ = some σ' ∧ GC 19 σ' (nit pl x (i + 1)) ∧ σ'.1 19 0 = nI (k + (i + 1)) ∧ fr [19, 20, 21, 22, 23, 24] σ σ' := by
  obtain ⟨a1, a2, a3⟩ := nit_ok hB hN hW i
  have : B + 4995 * i + 4995 ≤ B + 4995 * m := by
    have := Nat.mul_le_mul_left 4995 (show i + 1 ≤ m from hi)
    omega
  exact c_pass19 hB hP (by omega) hG a1 hk
theorem m_pass1 {pl : Nat → Nat → Nat} (hB : PB pl) {τ : Hp} (hP : PM τ pl) {x : GS} {B k m i : Nat} (hBB : B + 4995 * m < 700000000) (hi : i < m) (hN : NI pl B x) (hW : WN pl x.2.2.2) (hG : GM τ (nit pl x i)) (hO : OU pl τ (nit pl x i).1.2) (hk : τ.1 86 23 = nI (k + i)) : ∃ τ', f_X12_passes τ = some τ' ∧ GM τ' (nit pl x (i + 1)) ∧ OU pl τ' (nit pl x (i + 1)).1.2 ∧ τ'.1 86 23 = nI (k + (i + 1)) ∧ FM τ τ' := by
  obtain ⟨a1, a2, a3⟩ := nit_ok hB hN hW i
  have : B + 4995 * i + 4995 ≤ B + 4995 * m := by
    have := Nat.mul_le_mul_left 4995 (show i + 1 ≤ m from hi)
    omega
  obtain ⟨τ1, g1, g2, g3, g4, g5⟩ := m_pass hB hP (by omega) hG a1 a2 hO hk
  exact ⟨_, g1, g2, g3, rfl, FM_p g5⟩
theorem c_ticks {pl : Nat → Nat → Nat} (hB : PB pl) {σ : Hp} (hP : PC σ pl) {x : GS} {B k m : Nat} (hBB : B + 4995 * m < 700000000) (hm : m < 2147483648) (hN : NI pl B x) (hW : WN pl x.2.2.2) (hG : GC 13 σ x) (hk : σ.1 13 0 = nI k) (k81 : Hp → Option (Int32 × Hp)) : ∃ σ', lp (f_X11_ticks_l59 (nI m) k81) FU ((0 : Int32), σ) = k81 σ' ∧ GC 13 σ' (nit pl x m) ∧ σ'.1 13 0 = nI (k + m) ∧ fr [13, 14, 15, 16, 17, 18] σ σ' := by
  refine lp_h (Q := fun r => ∃ σ', r = k81 σ' ∧ GC 13 σ' (nit pl x m) ∧ σ'.1 13 0 = nI (k + m) ∧ fr [13, 14, 15, 16, 17, 18] σ σ') m (fun i τ => GC 13 τ (nit pl x i) ∧ τ.1 13 0 = nI (k + i) ∧ fr [13, 14, 15, 16, 17, 18] σ τ) ?_ ?_ (by omega) ⟨hG, hk, fr_0 _ _⟩
  · rintro i τ hi ⟨h1, h2, h3⟩ K
    have hP' : PC τ pl := PC_fr (by decide) h3 hP
    obtain ⟨τ1, g1, g2, g3, g4⟩ := c_pass113 hB hP' hBB hi hN hW h1 h2
    refine ⟨τ1, ⟨g2, g3, fr_t h3 g4⟩, ?_⟩
    simp (disch := omega) only [f_X11_ticks_l59, le_f, g1, cr_s, lt_e, nI_1]
  · rintro τ ⟨h1, h2, h3⟩ K
    refine ⟨τ, ?_, h1, h2, h3⟩
    simp (disch := omega) only [f_X11_ticks_l59, le_t]
theorem m_ticks {pl : Nat → Nat → Nat} (hB : PB pl) {τ : Hp} (hP : PM τ pl) {x : GS} {B k m : Nat} (hBB : B + 4995 * m < 700000000) (hm : m < 2147483648) (hN : NI pl B x) (hW : WN pl x.2.2.2) (hG : GM τ x) (hO : OU pl τ x.1.2) (hk : τ.1 86 23 = nI k) : ∃ τ', lp (f_X12_ticks_l52 (nI m)) FU ((0 : Int32), τ) = some (nI (k + m), τ') ∧ GM τ' (nit pl x m) ∧ OU pl τ' (nit pl x m).1.2 ∧ τ'.1 86 23 = nI (k + m) ∧ FM τ τ' := by
  refine lp_h (Q := fun r => ∃ τ', r = some (nI (k + m), τ') ∧ GM τ' (nit pl x m) ∧ OU pl τ' (nit pl x m).1.2 ∧ τ'.1 86 23 = nI (k + m) ∧ FM τ τ') m (fun i ρ => GM ρ (nit pl x i) ∧ OU pl ρ (nit pl x i).1.2 ∧ ρ.1 86 23 = nI (k + i) ∧ FM τ ρ) ?_ ?_ (by omega) ⟨hG, hO, hk, FM_0 _⟩
  · rintro i ρ hi ⟨h1, h4, h2, h3⟩ K
    have hP' : PM ρ pl := PM_fm h3 hP
    obtain ⟨τ1, g1, g2, g5, g3, g4⟩ := m_pass1 hB hP' hBB hi hN hW h1 h4 h2
    refine ⟨τ1, ⟨g2, g5, g3, FM_t h3 g4⟩, ?_⟩
    simp (disch := omega) only [f_X12_ticks_l52, le_f, g1, cr_s, lt_e, nI_1]
  · rintro ρ ⟨h1, h4, h2, h3⟩ K
    refine ⟨ρ, ?_, h1, h4, h2, h3⟩
    simp (disch := omega) only [f_X12_ticks_l52, le_t, h2]
theorem RA_tick {r25 k26 k27 k28 : Nat → Int32} {m50 m51 : Int32} {m122 m123 m124 m125 : Nat → Int32} {opn on warmed warmed' : Int32} {m104 m105 m106 m106' lim : Nat → Int32} {pipes pumps : Int32} (h : RA r25 k26 k27 k28 m50 m51 m122 m123 m124 m125 opn on warmed m104 m105 m106 pipes pumps lim) (h3 : r25 3 = 0) (h4 : r25 4 = 0) {m m' : Nat} (hm : warmed = nI m) (hm8 : m < 256) (hm' : warmed' = nI m') (hf : ∀ k, m106' k = bN m' k) (hm8' : m' < 256) (hs : ∀ k, m'.testBit k = true → m.testBit k = true) : RA r25 k26 k27 k28 m50 m51 m122 m123 m124 m125 opn on warmed' m104 m105 m106' pipes pumps lim := by
  obtain ⟨d, u, ⟨e1, e2, e3, e4, e5⟩, so, sn, sw, ⟨o1, o2, o3⟩, a1, a2, a3⟩ := h
  have hd : d = 0 := (nI_eq (a := d) (b := 0) (by omega) (by omega)).1 (e1.symm.trans h3)
  have hu : u = 0 := (nI_eq (a := u) (b := 0) (by omega) (by omega)).1 (e3.symm.trans h4)
  subst hd hu
  obtain ⟨s1, s2, s3, s4, s5, s6⟩ := a2 0 (by omega)
  have hw : sw 0 = m := (nI_eq (by omega) (by omega)).1 (o3.symm.trans hm)
  refine ⟨0, 0, ⟨e1, e2, e3, e4, e5⟩, so, sn, fun _ => m', ⟨o1, o2, hm'⟩, fun k => ⟨(a1 k).1, (a1 k).2.1, hf k⟩, fun j hj => ?_, fun j hj => absurd hj (by omega)⟩
  have hj : j = 0 := by omega
  subst hj
  refine ⟨s1, s2, hm8', s4, fun k hk => ⟨(s5 k hk).1, ?_⟩, fun k hk => s6 k (by rw [hw]; exact hs k hk)⟩
  cases e : m'.testBit k with
  | false => rfl
  | true =>
    have h7 := hs k e
    rw [← hw, (s5 k hk).2] at h7
    cases h7
/-- rows that may stand in the relation -/
theorem hi_bd {B : Nat} {x y : GS} (hB : B < 700000000) (h : KNk B x.1.1 x.2.1 x.1.2 x.2.2.1) (hh : hiE x y) (hy : ∀ j, y.1.1 j < 2147483648 ∧ y.2.1 j < 2147483648 ∧ y.1.2 j < 2147483648 ∧ y.2.2.1 j < 2147483648) (j : Nat) : x.1.1 j < 2147483648 ∧ x.2.1 j < 2147483648 ∧ x.1.2 j < 2147483648 ∧ x.2.2.1 j < 2147483648 := by
  obtain ⟨h1, h2, h3, h4⟩ := hh
  obtain ⟨y1, y2, y3, y4⟩ := hy j
  refine ⟨?_, ?_, ?_, ?_⟩
  · rcases Nat.lt_or_ge j 15 with e | e
    · have := KN_a h e; omega
    · rw [h1 j e]; exact y1
  · rcases Nat.lt_or_ge j 15 with e | e
    · have := KN_w h e; omega
    · rw [h3 j e]; exact y2
  · rcases Nat.lt_or_ge j 24 with e | e
    · have := KN_t h e; omega
    · rw [h2 j e]; exact y3
  · rcases Nat.lt_or_ge j 3 with e | e
    · have := h j e; omega
    · rw [h4 j e]; exact y4
