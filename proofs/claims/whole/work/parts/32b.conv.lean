/-! ===== the relation, by naturals ===== -/
def PM (τ : Hp) (pl : Nat → Nat → Nat) : Prop :=
  (τ.1 86 20 = nI (pl 1 0) ∧ τ.1 86 21 = nI (pl 1 6) ∧ τ.1 86 22 = nI (pl 1 11) ∧ (∀ k, τ.1 104 k = bN (pl 1 10) k) ∧ (∀ k, τ.1 105 k = bN (pl 1 15) k)) ∧
  (∀ k, k < pl 1 0 → τ.1 88 k = nI (pl 2 k)) ∧ (∀ k, τ.1 89 k = nI (pl 3 k)) ∧ (∀ k, τ.1 90 k = nI (pl 4 k)) ∧ (∀ k, τ.1 91 k = nI (pl 5 k)) ∧ (∀ k, τ.1 98 k = nI (pl 6 k)) ∧
  (∀ k, k < pl 1 6 → τ.1 92 k = nI (pl 7 k)) ∧ (∀ k, k < pl 1 6 → τ.1 93 k = nI (pl 8 k)) ∧ (∀ k, k < pl 1 6 → τ.1 94 k = nI (pl 9 k)) ∧ (∀ k, k < pl 1 11 → τ.1 95 k = nI (pl 10 k)) ∧ (∀ k, τ.1 96 k = nI (pl 11 k)) ∧ (∀ k, τ.1 97 k = nI (pl 12 k))
/-- cells of the model that hold the plant -/
def mP (a : Nat) : Bool := (decide (88 ≤ a) && decide (a ≤ 98)) || decide (a = 86) || decide (a = 104) || decide (a = 105)
theorem PM_fr {l : List Nat} {τ τ' : Hp} {pl : Nat → Nat → Nat} (hl : ∀ a, a ∈ l → mP a = false) (h : fr l τ τ') (hP : PM τ pl) : PM τ' pl := by
  have e : ∀ a, mP a = true → τ'.1 a = τ.1 a := fun a ha => h a (fun h1 => by rw [hl a h1] at ha; cases ha)
  unfold PM
  rw [e 86 rfl, e 104 rfl, e 105 rfl, e 88 rfl, e 89 rfl, e 90 rfl, e 91 rfl, e 92 rfl, e 93 rfl, e 94 rfl, e 95 rfl, e 96 rfl, e 97 rfl, e 98 rfl]
  exact hP
def GC (g : Nat) (σ : Hp) (x : GS) : Prop := σ.1 (g + 1) = nrow x.1.1 ∧ σ.1 (g + 2) = nrow x.2.1 ∧ σ.1 (g + 3) = nrow x.1.2 ∧ σ.1 (g + 4) = nrow x.2.2.1 ∧ σ.1 g 1 = nI x.2.2.2
def GM (τ : Hp) (x : GS) : Prop := τ.1 99 = nrow x.1.1 ∧ τ.1 100 = nrow x.2.1 ∧ τ.1 101 = nrow x.1.2 ∧ τ.1 102 = nrow x.2.2.1 ∧ ∀ k, τ.1 106 k = bN x.2.2.2 k
def ouN (pl : Nat → Nat → Nat) (t : Nat → Nat) (g : Nat) : Nat → Nat
  | 0 => 0
  | p + 1 => ouN pl t g p + (if pl 12 p = 0 then t (3 * p + g) else 0)
def OU (pl : Nat → Nat → Nat) (τ : Hp) (t : Nat → Nat) : Prop := ∀ g, g < 3 → τ.1 103 g = nI (ouN pl t g (pl 1 11))
theorem ou3_N {pl : Nat → Nat → Nat} {lim : Nat → Int32} (hl : ∀ k, lim k = nI (pl 12 k)) (hb : ∀ k, pl 12 k ≤ 99999) (t : Nat → Nat) (g : Nat) : ∀ m, ou3 lim (nrow t) g m = nI (ouN pl t g m)
  | 0 => rfl
  | m + 1 => by
    show ou3 lim (nrow t) g m + (if (lim m).toInt = 0 then nrow t (3 * m + g) else 0) = nI (ouN pl t g m + (if pl 12 m = 0 then t (3 * m + g) else 0))
    have := hb m
    rw [ou3_N hl hb t g m, hl m, nI_toInt (by omega), ← nI_add]
    by_cases h : pl 12 m = 0
    · rw [if_pos (by omega), if_pos h]; rfl
    · rw [if_neg (by omega), if_neg h]; rfl
theorem sm3_N {t : Nat → Nat} {g : Nat} : ∀ m, (∀ k, k < 3 * m → t k < 2147483648) → g < 3 → sm3 (nrow t) g m = (sn t g m : Int)
  | 0, _, _ => rfl
  | m + 1, h, hg => by
    show sm3 (nrow t) g m + (nrow t (3 * m + g)).toInt = _
    rw [sm3_N m (fun k hk => h k (by omega)) hg, nrow_inj (h _ (by omega)), sn_s]
    omega
/-- from the class's rows to naturals -/
theorem RG_N {n : Nat} {pl : Nat → Nat → Nat} {tick m23 : Int32} {c14 c15 c16 c17 m99 m100 m101 m102 m103 lim : Nat → Int32} {pumps : Int32} (hl : ∀ k, lim k = nI (pl 12 k)) (hb : ∀ k, pl 12 k ≤ 99999) (hp : pumps = nI (pl 1 11)) (hq : pl 1 11 ≤ 8) (h : RG n tick m23 c14 c15 c16 c17 m99 m100 m101 m102 m103 lim pumps) :
    ∃ (a w t d : Nat → Nat) (k : Nat), tick = nI k ∧ k ≤ 5000 ∧ m23 = nI k ∧ c14 = nrow a ∧ m99 = nrow a ∧ c15 = nrow w ∧ m100 = nrow w ∧ c16 = nrow t ∧ m101 = nrow t ∧ c17 = nrow d ∧ m102 = nrow d ∧ KNk (99999 * n + 4995 * k) a w t d ∧ TN pl t ∧ (∀ g, g < 3 → m103 g = nI (ouN pl t g (pl 1 11))) ∧ (∀ j, a j < 2147483648 ∧ w j < 2147483648 ∧ t j < 2147483648 ∧ d j < 2147483648) := by
  obtain ⟨⟨h1, h2⟩, ⟨e1, e2, e3, e4⟩, p1, p2, p34, h6, h7, h8, h9⟩ := h
  obtain ⟨b1, b2⟩ := h2
  have p3 : ∀ k, 0 ≤ (c16 k).toInt := fun k => (p34 k).1
  have p4 : ∀ k, 0 ≤ (c17 k).toInt := fun k => (p34 k).2
  have r1 := nrow_of p1
  have r2 := nrow_of p2
  have r3 := nrow_of p3
  have r4 := nrow_of p4
  have z : ∀ x : Int32, x.toInt.toNat < 2147483648 := fun x => by have := i32_bd x; omega
  refine ⟨fun k => (c14 k).toInt.toNat, fun k => (c15 k).toInt.toNat, fun k => (c16 k).toInt.toNat, fun k => (c17 k).toInt.toNat, tick.toInt.toNat, nI_of_toInt b1, by omega, by rw [← h1]; exact nI_of_toInt b1, r1, by rw [← e1]; exact r1, r2, by rw [← e2]; exact r2, r3, by rw [← e3]; exact r3, r4, by rw [← e4]; exact r4, ?_, ⟨?_, ?_⟩, ?_, fun j => ⟨z _, z _, z _, z _⟩⟩
  · intro g hg
    have h0 := h6 g hg
    rw [r1, r2, r3, sm3_N 5 (fun k _ => z _) hg, sm3_N 5 (fun k _ => z _) hg, sm3_N 8 (fun k _ => z _) hg] at h0
    have := p4 g
    constructor
    · show _ = (c17 g).toInt.toNat
      omega
    · show (c17 g).toInt.toNat ≤ _
      omega
  · intro k hk
    rcases Nat.lt_or_ge k 8 with hk8 | hk8
    · have hl1 : (lim k).toInt = (pl 12 k : Int) := by rw [hl k, nI_toInt (by have := hb k; omega)]
      have h0 := h7 k hk8 (by omega)
      have q0 := p3 (3 * k)
      have q1 := p3 (3 * k + 1)
      have q2 := p3 (3 * k + 2)
      show (c16 (3 * k)).toInt.toNat + (c16 (3 * k + 1)).toInt.toNat + (c16 (3 * k + 2)).toInt.toNat ≤ _
      omega
    · have h0 := h8 k (by rw [hp, nI_toInt (by omega)]; omega)
      show (c16 (3 * k)).toInt.toNat + (c16 (3 * k + 1)).toInt.toNat + (c16 (3 * k + 2)).toInt.toNat ≤ _
      rw [h0.1, h0.2.1, h0.2.2]
      exact Nat.zero_le _
  · intro k hk
    have h0 := h8 k (by rw [hp, nI_toInt (by omega)]; omega)
    show (c16 (3 * k)).toInt.toNat + (c16 (3 * k + 1)).toInt.toNat + (c16 (3 * k + 2)).toInt.toNat = _
    rw [h0.1, h0.2.1, h0.2.2]
    rfl
  · intro g hg
    have h0 := h9 g hg
    have e9 : pumps.toInt.toNat = pl 1 11 := by rw [hp, nI_toInt (by omega)]; omega
    rw [h0, e9]
    have h10 := ou3_N hl hb (fun k => (c16 k).toInt.toNat) g (pl 1 11)
    rw [← r3] at h10
    exact h10
/-- and back -/
theorem N_RG {n : Nat} {pl : Nat → Nat → Nat} {tick m23 : Int32} {c14 c15 c16 c17 m99 m100 m101 m102 m103 lim : Nat → Int32} {pumps : Int32} (hl : ∀ k, lim k = nI (pl 12 k)) (hb : ∀ k, pl 12 k ≤ 99999) (hp : pumps = nI (pl 1 11)) (hq : pl 1 11 ≤ 8) {a w t d : Nat → Nat} {k : Nat} (h1 : tick = nI k) (h2 : k ≤ 5000) (h3 : m23 = nI k) (h4 : c14 = nrow a) (h5 : m99 = nrow a) (h6 : c15 = nrow w) (h7 : m100 = nrow w) (h8 : c16 = nrow t) (h9 : m101 = nrow t) (h10 : c17 = nrow d) (h11 : m102 = nrow d) (hn : n ≤ 512)
    (hz : ∀ j, a j < 2147483648 ∧ w j < 2147483648 ∧ t j < 2147483648 ∧ d j < 2147483648) (hK : KNk (99999 * n + 4995 * k) a w t d) (hT : TN pl t) (hO : ∀ g, g < 3 → m103 g = nI (ouN pl t g (pl 1 11))) : RG n tick m23 c14 c15 c16 c17 m99 m100 m101 m102 m103 lim pumps := by
  have nn : ∀ {f : Nat → Nat} {j : Nat}, f j < 2147483648 → 0 ≤ (nrow f j).toInt := fun {f j} hf => by rw [nrow_inj hf]; omega
  subst h4 h5 h6 h7 h8 h9 h10 h11 h1 h3
  refine ⟨⟨rfl, ?_⟩, ⟨rfl, rfl, rfl, rfl⟩, fun j => nn (hz j).1, fun j => nn (hz j).2.1, fun j => ⟨nn (hz j).2.2.1, nn (hz j).2.2.2⟩, ?_, ?_, ?_, ?_⟩
  · rw [show bd (nI k) 0 5000 ↔ 0 ≤ (nI k).toInt ∧ (nI k).toInt ≤ 5000 from Iff.rfl, nI_toInt (by omega)]
    omega
  · intro g hg
    have h0 := hK g hg
    rw [sm3_N 5 (fun j _ => (hz j).1) hg, sm3_N 5 (fun j _ => (hz j).2.1) hg, sm3_N 8 (fun j _ => (hz j).2.2.1) hg, nrow_inj (hz g).2.2.2, nI_toInt (by omega)]
    omega
  · intro j hj hlj
    rw [hl j, nI_toInt (by have := hb j; omega)] at hlj ⊢
    have h0 := hT.1 j (by omega)
    rw [nrow_inj (hz _).2.2.1, nrow_inj (hz _).2.2.1, nrow_inj (hz _).2.2.1]
    unfold hdN at h0
    omega
  · intro j hj
    rw [hp, nI_toInt (by omega)] at hj
    have h0 := hT.2 j (by omega)
    unfold hdN at h0
    refine ⟨?_, ?_, ?_⟩
    · show nI (t (3 * j)) = nI 0
      rw [show t (3 * j) = 0 by omega]
    · show nI (t (3 * j + 1)) = nI 0
      rw [show t (3 * j + 1) = 0 by omega]
    · show nI (t (3 * j + 2)) = nI 0
      rw [show t (3 * j + 2) = 0 by omega]
  · intro g hg
    have e9 : pumps.toInt.toNat = pl 1 11 := by rw [hp, nI_toInt (by omega)]; omega
    rw [hO g hg, e9, ou3_N hl hb]
/-- the plant of related heaps, by naturals -/
def plN (σ : Hp) : Nat → Nat → Nat := fun c k => (σ.1 c k).toInt.toNat
theorem nI_lt' {m b : Nat} (h : m < 2 ^ b) (hb : b ≤ 30) : (nI m).toInt.toNat = m := by
  have := Nat.pow_le_pow_right (n := 2) (by omega) hb
  rw [nI_toInt (by omega)]
  omega
theorem RR_pl {n : Nat} {σ τ : Hp} (h : RR n σ τ) : PB (plN σ) ∧ PC σ (plN σ) ∧ PM τ (plN σ) := by
  obtain ⟨hF, hP, hG, hA, -⟩ := h
  obtain ⟨⟨e0, e1, e2⟩, ⟨⟨v1, v1'⟩, ⟨v2, v2'⟩, ⟨v3, v3'⟩⟩, ⟨q2, q3, q4, q5, q6, q7, q8, q9, q10, q11, q12⟩, p4, p5, p6, p7, p8, p9, p10, p11, p12⟩ := hP
  obtain ⟨d, u, hdu, so, sn', sw, ⟨o1, o2, o3⟩, o4, o5, o6⟩ := hA
  obtain ⟨s1, s2, s3, s4⟩ := o5 d (by omega)
  have m1 : plN σ 1 10 = so d := by show (σ.1 1 10).toInt.toNat = _; rw [o1]; exact nI_lt' s1 (by omega)
  have m2 : plN σ 1 15 = sn' d := by show (σ.1 1 15).toInt.toNat = _; rw [o2]; exact nI_lt' s2 (by omega)
  have r0 : σ.1 1 0 = nI (plN σ 1 0) := nI_of_toInt v1
  have r6 : σ.1 1 6 = nI (plN σ 1 6) := nI_of_toInt v2
  have r11 : σ.1 1 11 = nI (plN σ 1 11) := nI_of_toInt v3
  have w0 : (plN σ 1 0 : Int) = (σ.1 1 0).toInt := by show ((σ.1 1 0).toInt.toNat : Int) = _; omega
  have w6 : (plN σ 1 6 : Int) = (σ.1 1 6).toInt := by show ((σ.1 1 6).toInt.toNat : Int) = _; omega
  have w11 : (plN σ 1 11 : Int) = (σ.1 1 11).toInt := by show ((σ.1 1 11).toInt.toNat : Int) = _; omega
  have bb : ∀ {c k : Nat} {lo hi : Int}, 0 ≤ lo → bd (σ.1 c k) lo hi → σ.1 c k = nI (plN σ c k) ∧ lo ≤ (plN σ c k : Int) ∧ (plN σ c k : Int) ≤ hi := fun {c k lo hi} h0 hbd => by
    obtain ⟨h1, h2⟩ := hbd
    have e : (plN σ c k : Int) = (σ.1 c k).toInt := by show ((σ.1 c k).toInt.toNat : Int) = _; omega
    exact ⟨nI_of_toInt (by omega), by omega, by omega⟩
  have x2 : ∀ k, k < plN σ 1 0 → _ := fun k hk => bb (c := 2) (by omega) (p4 k (by omega))
  have x3 := fun k => bb (c := 3) (by omega) (p5 k)
  have x4 := fun k => bb (c := 4) (by omega) (p6 k)
  have x5 := fun k => bb (c := 5) (by omega) (p7 k)
  have x6 := fun k => bb (c := 6) (by omega) (p8 k)
  have x7 : ∀ k, k < plN σ 1 6 → _ := fun k hk => bb (c := 7) (by omega) (p9 k (by omega)).1
  have x8 : ∀ k, k < plN σ 1 6 → _ := fun k hk => bb (c := 8) (by omega) (p9 k (by omega)).2.1
  have x9 : ∀ k, k < plN σ 1 6 → _ := fun k hk => bb (c := 9) (by omega) (p9 k (by omega)).2.2.2
  have x10 : ∀ k, k < plN σ 1 11 → _ := fun k hk => bb (c := 10) (by omega) (p10 k (by omega))
  have x11 := fun k => bb (c := 11) (by omega) (p11 k)
  have x12 := fun k => bb (c := 12) (by omega) (p12 k)
  refine ⟨⟨⟨by omega, by omega, by omega, by rw [m1]; exact s1, by rw [m2]; exact s2⟩, fun k hk => ?_, fun k => ?_, fun k => ?_, fun k => ?_, fun k => ?_, fun k hk => ?_, fun k hk => ?_, fun k => ?_, fun k => ?_⟩, ⟨⟨r0, r6, r11, by rw [m1]; exact o1, by rw [m2]; exact o2⟩, fun k hk => (x2 k hk).1, fun k => (x3 k).1, fun k => (x4 k).1, fun k => (x5 k).1, fun k => (x6 k).1, fun k hk => (x7 k hk).1, fun k hk => (x8 k hk).1, fun k hk => (x9 k hk).1, fun k hk => (x10 k hk).1, fun k => (x11 k).1, fun k => (x12 k).1⟩, ⟨⟨by rw [← e0]; exact r0, by rw [← e1]; exact r6, by rw [← e2]; exact r11, by rw [m1]; exact fun k => (o4 k).1, by rw [m2]; exact fun k => (o4 k).2.1⟩, by rw [← q2]; exact fun k hk => (x2 k hk).1, by rw [← q3]; exact fun k => (x3 k).1, by rw [← q4]; exact fun k => (x4 k).1, by rw [← q5]; exact fun k => (x5 k).1, by rw [← q6]; exact fun k => (x6 k).1, by rw [← q7]; exact fun k hk => (x7 k hk).1, by rw [← q8]; exact fun k hk => (x8 k hk).1, by rw [← q9]; exact fun k hk => (x9 k hk).1, by rw [← q10]; exact fun k hk => (x10 k hk).1, by rw [← q11]; exact fun k => (x11 k).1, by rw [← q12]; exact fun k => (x12 k).1⟩⟩
  · have := x2 k hk; omega
  · have := x3 k; omega
  · have := x4 k; omega
  · have := x5 k; omega
  · have := x6 k; omega
  · have h7 := x7 k hk
    have h8 := x8 k hk
    have h9 := x9 k hk
    refine ⟨by omega, by omega, fun e => (p9 k (by omega)).2.2.1 ?_, by omega, by omega⟩
    rw [h7.1, h8.1, e]
  · have := x10 k hk; omega
  · have := x11 k; omega
  · have := x12 k; omega
/-- who may be warmed -/
def WN (pl : Nat → Nat → Nat) (m : Nat) : Prop := (∀ j, pl 1 11 ≤ j → m.testBit j = false) ∧ ∀ j, m.testBit j = true → 0 < pl 12 j
/-- the gas of related heaps, by naturals -/
theorem RR_gs {n : Nat} {σ τ : Hp} (h : RR n σ τ) : ∃ (x : GS) (k : Nat), σ.1 13 0 = nI k ∧ k ≤ 5000 ∧ τ.1 86 23 = nI k ∧ GC 13 σ x ∧ GM τ x ∧ NI (plN σ) (99999 * n + 4995 * k) x ∧ OU (plN σ) τ x.1.2 ∧ WN (plN σ) x.2.2.2 ∧ (∀ j, x.1.1 j < 2147483648 ∧ x.2.1 j < 2147483648 ∧ x.1.2 j < 2147483648 ∧ x.2.2.1 j < 2147483648) := by
  obtain ⟨hB, hC, hM⟩ := RR_pl h
  obtain ⟨hF, hP, hG, hA, -⟩ := h
  obtain ⟨a, w, t, d, k, h1, h2, h3, h4, h5, h6, h7, h8, h9, h10, h11, h12, h13, h14, h15⟩ := RG_N (pl := plN σ) hC.2.2.2.2.2.2.2.2.2.2.2 hB.2.2.2.2.2.2.2.2.2 hC.1.2.2.1 hB.1.2.2.1 hG
  obtain ⟨d', u, hdu, so, sn', sw, ⟨o1, o2, o3⟩, o4, o5, o6⟩ := hA
  obtain ⟨s1, s2, s3, s4, s5, s6⟩ := o5 d' (by omega)
  refine ⟨((a, t), w, d, sw d'), k, h1, h2, h3, ⟨h4, h6, h8, h10, o3⟩, ⟨h5, h7, h9, h11, fun j => (o4 j).2.2⟩, ⟨⟨h12, h13⟩, s3⟩, h14, ⟨fun j hj => (s5 j ?_).2, fun j hj => ?_⟩, h15⟩
  · rw [hC.1.2.2.1, nI_toInt (by have := hB.1.2.2.1; omega)]
    omega
  · have h7 := (s6 j hj).2
    show 0 < (σ.1 12 j).toInt.toNat
    omega
