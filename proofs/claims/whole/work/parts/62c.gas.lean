/-! ===== true gases: the class ===== -/
def CIg (F : Nat → Bool) (k : Nat) (sum : Int32) (σ : Hp) : Prop := sum = nI (cnF F k) ∧ (∀ g, g < 3 → σ.1 70 g = nI (mnF F (vv g) k)) ∧ ∀ g, g < 3 → (σ.1 71 g).toInt = mxF F (vv g) k
theorem vv_at {a b c : Nat} (hb : b < 41) (hc : c < 41) : vv 0 (1681 * a + 41 * b + c) = a ∧ vv 1 (1681 * a + 41 * b + c) = b ∧ vv 2 (1681 * a + 41 * b + c) = c := by
  refine ⟨?_, ?_, ?_⟩
  · show (1681 * a + 41 * b + c) / 1681 = a; omega
  · show (1681 * a + 41 * b + c) / 41 % 41 = b; omega
  · show (1681 * a + 41 * b + c) % 41 = c; omega
theorem c_note {σ : Hp} {g : Nat} {x y : Int32} (hg : g < 3) : ∃ σ', f_X3_note (nI g) x y σ = some σ' ∧ (∀ c, c ≠ 70 → c ≠ 71 → σ'.1 c = σ.1 c) ∧ (∀ j, σ'.1 70 j = if j = g then (if x < σ.1 70 g then x else σ.1 70 g) else σ.1 70 j) ∧ ∀ j, σ'.1 71 j = if j = g then (if σ.1 71 g < y then y else σ.1 71 g) else σ.1 71 j := by
  refine ⟨sI (sI σ 70 g (if x < σ.1 70 g then x else σ.1 70 g)) 71 g (if σ.1 71 g < y then y else σ.1 71 g), ?_, fun c h1 h2 => ?_, fun j => ?_, fun j => ?_⟩
  · unfold f_X3_note
    rw [ldI_n (by omega) (by omega), stI_n (by omega) (by omega), ldI_n (by omega) (by omega), stI_n (by omega) (by omega)]
    rfl
  · rw [sI_1, if_neg h2, sI_1, if_neg h1]
  · show upd (σ.1 70) g _ j = _
    rw [upd_at]
  · show upd (σ.1 71) g _ j = _
    rw [upd_at]
theorem c_pair {s : Nat → Nat} {q : Nat → Int} {σ : Hp} {D a b : Nat} {sum : Int32} (hG : Gg s q (σ.1 68) (σ.1 69)) (hD : D ≤ 9) (ha : a < 41) (hb : b < 41) (hI : CIg (tgK s q D) (1681 * a + 41 * b) sum σ) (t10 : Int32 × Int32 × Hp) (ht : t10.2.1 = nI a) (k111 : Int32 × Hp → Option (Int32 × Hp)) : ∃ sum' σ', (∀ K, f_X3_possible_l33 (nI D) t10 k111 K (sum, nI b, σ) = K (sum', nI (b + 1), σ')) ∧ (∀ c, c ≠ 67 → c ≠ 70 → c ≠ 71 → σ'.1 c = σ.1 c) ∧ CIg (tgK s q D) (1681 * a + 41 * b + 41) sum' σ' := by
  obtain ⟨σ1, lo, hi, b1, b2, b3, b4, b5, b6, b7⟩ := c_bound hG hD (show a ≤ 40 by omega) (show b ≤ 40 by omega)
  obtain ⟨i1, i2, i3⟩ := hI
  have hF : ∀ c : Nat, c < 41 → (tgK s q D (1681 * a + 41 * b + c) = true ↔ lo ≤ c ∧ (c : Int) ≤ hi) := fun c hc => by
    unfold tgK
    rw [show (1681 * a + 41 * b + c) / 1681 = a by omega, show (1681 * a + 41 * b + c) / 41 % 41 = b by omega, show (1681 * a + 41 * b + c) % 41 = c by omega]
    exact b7 c (by omega)
  have hcn := blk_cn hF b5 b6 41 (Nat.le_refl _)
  have hm0 := blk_mn hF b5 b6 (v := vv 0) (x := a) (fun c hc => (vv_at hb hc).1) 41 (Nat.le_refl _)
  have hm1 := blk_mn hF b5 b6 (v := vv 1) (x := b) (fun c hc => (vv_at hb hc).2.1) 41 (Nat.le_refl _)
  have hm2 := blk_mnc hF b5 b6 (v := vv 2) (fun c hc => (vv_at hb hc).2.2) 41 (Nat.le_refl _)
  have hx0 := blk_mx hF b5 b6 (v := vv 0) (x := a) (fun c hc => (vv_at hb hc).1) 41 (Nat.le_refl _)
  have hx1 := blk_mx hF b5 b6 (v := vv 1) (x := b) (fun c hc => (vv_at hb hc).2.1) 41 (Nat.le_refl _)
  have hx2 := blk_mxc hF b5 b6 (v := vv 2) (fun c hc => (vv_at hb hc).2.2) 41 (Nat.le_refl _)
  generalize hk : 1681 * a + 41 * b = k at *
  have hcl := cn_le (tgK s q D) k
  have hml : ∀ g, mnF (tgK s q D) (vv g) k ≤ 41 := fun g => mn_le _ _ _
  have hK : ∀ t, ∀ K : Int32 × Int32 × Hp → Option (Int32 × Hp), f_X3_possible_j105 (sum, nI b, σ) K t = K (t.1, nI (b + 1), t.2) := fun t K => by
    unfold f_X3_possible_j105
    rw [lt_e, nI_1]
  have hgo : ∀ K : Int32 × Int32 × Hp → Option (Int32 × Hp), f_X3_possible_l33 (nI D) t10 k111 K (sum, nI b, σ) = if hi < lo then K (sum, nI (b + 1), σ1) else cr (f_X3_note 0 (nI a) (nI a) σ1) fun σ18 => cr (f_X3_note 1 (nI b) (nI b) σ18) fun σ19 => cr (f_X3_note 2 (σ19.1 67 4) (σ19.1 67 5) σ19) fun σ20 => K (sum + ((σ1.1 67 5 - σ1.1 67 4) + 1), nI (b + 1), σ20) := fun K => by
    unfold f_X3_possible_l33
    dsimp only
    rw [if_neg (show ¬ (40 : Int32) < nI b from nI_nlt (b := b) (a := 40) (by omega) (by omega)), ht, b1, cr_s, jn_e, hK, lt_e]
    simp only [hK, i32_lt, b3, b4]
  by_cases hlh : hi < lo
  · refine ⟨sum, σ1, fun K => by rw [hgo, if_pos hlh], fun c h1 _ _ => b2 c h1, ?_, fun g hg => ?_, fun g hg => ?_⟩
    · rw [i1]; congr 1; omega
    · rw [b2 70 (by omega), i2 g hg]
      have hn : ¬ lo < min ((41 : Nat) : Int) (hi + 1) := by omega
      rw [if_neg hn] at hm0 hm1 hm2
      congr 1
      rcases (show g = 0 ∨ g = 1 ∨ g = 2 by omega) with rfl | rfl | rfl
      · exact hm0.symm
      · exact hm1.symm
      · omega
    · rw [b2 71 (by omega), i3 g hg]
      have hn : ¬ lo < min ((41 : Nat) : Int) (hi + 1) := by omega
      rw [if_neg hn] at hx0 hx1 hx2
      rcases (show g = 0 ∨ g = 1 ∨ g = 2 by omega) with rfl | rfl | rfl
      · exact hx0.symm
      · exact hx1.symm
      · exact hx2.symm
  · obtain ⟨σ2, n1, n2, n3, n4⟩ := c_note (σ := σ1) (g := 0) (x := nI a) (y := nI a) (by omega)
    obtain ⟨σ3, p1, p2, p3, p4⟩ := c_note (σ := σ2) (g := 1) (x := nI b) (y := nI b) (by omega)
    obtain ⟨σ4, o1, o2, o3, o4⟩ := c_note (σ := σ3) (g := 2) (x := σ3.1 67 4) (y := σ3.1 67 5) (by omega)
    have e67 : σ3.1 67 = σ1.1 67 := by rw [p2 67 (by omega) (by omega), n2 67 (by omega) (by omega)]
    have hn : lo < min ((41 : Nat) : Int) (hi + 1) := by omega
    rw [if_pos hn] at hm0 hm1 hm2 hx0 hx1 hx2
    have m70 : ∀ g, g < 3 → σ1.1 70 g = nI (mnF (tgK s q D) (vv g) k) := fun g hg => by rw [b2 70 (by omega)]; exact i2 g hg
    have m71 : ∀ g, g < 3 → (σ1.1 71 g).toInt = mxF (tgK s q D) (vv g) k := fun g hg => by rw [b2 71 (by omega)]; exact i3 g hg
    have r0 : σ4.1 70 0 = if nI a < σ1.1 70 0 then nI a else σ1.1 70 0 := by
      rw [o3 0, if_neg (show ¬ 0 = 2 by omega), p3 0, if_neg (show ¬ 0 = 1 by omega), n3 0, if_pos rfl]
    have r1 : σ4.1 70 1 = if nI b < σ1.1 70 1 then nI b else σ1.1 70 1 := by
      rw [o3 1, if_neg (show ¬ 1 = 2 by omega), p3 1, if_pos rfl, n3 1, if_neg (show ¬ 1 = 0 by omega)]
    have r2 : σ4.1 70 2 = if σ1.1 67 4 < σ1.1 70 2 then σ1.1 67 4 else σ1.1 70 2 := by
      rw [o3 2, if_pos rfl, p3 2, if_neg (show ¬ 2 = 1 by omega), n3 2, if_neg (show ¬ 2 = 0 by omega), e67]
    have t0 : σ4.1 71 0 = if σ1.1 71 0 < nI a then nI a else σ1.1 71 0 := by
      rw [o4 0, if_neg (show ¬ 0 = 2 by omega), p4 0, if_neg (show ¬ 0 = 1 by omega), n4 0, if_pos rfl]
    have t1 : σ4.1 71 1 = if σ1.1 71 1 < nI b then nI b else σ1.1 71 1 := by
      rw [o4 1, if_neg (show ¬ 1 = 2 by omega), p4 1, if_pos rfl, n4 1, if_neg (show ¬ 1 = 0 by omega)]
    have t2 : σ4.1 71 2 = if σ1.1 71 2 < σ1.1 67 5 then σ1.1 67 5 else σ1.1 71 2 := by
      rw [o4 2, if_pos rfl, p4 2, if_neg (show ¬ 2 = 1 by omega), n4 2, if_neg (show ¬ 2 = 0 by omega), e67]
    refine ⟨sum + ((σ1.1 67 5 - σ1.1 67 4) + 1), σ4, fun K => ?_, fun c h1 h2 h3 => ?_, ?_, fun g hg => ?_, fun g hg => ?_⟩
    · rw [hgo, if_neg hlh, show (0 : Int32) = nI 0 from rfl, n1, cr_s, show ∀ x : Hp, f_X3_note 1 (nI b) (nI b) x = f_X3_note (nI 1) (nI b) (nI b) x from fun _ => rfl, p1, cr_s, show ∀ x : Hp, f_X3_note 2 (σ3.1 67 4) (σ3.1 67 5) x = f_X3_note (nI 2) (σ3.1 67 4) (σ3.1 67 5) x from fun _ => rfl, o1, cr_s]
    · rw [o2 c h2 h3, p2 c h2 h3, n2 c h2 h3, b2 c h1]
    · have d1 : (σ1.1 67 5 - σ1.1 67 4).toInt = hi - lo := by rw [subI (by rw [b3, b4]; omega) (by rw [b3, b4]; omega), b3, b4]
      have d2 : ((σ1.1 67 5 - σ1.1 67 4) + 1).toInt = hi - lo + 1 := by rw [addI (by rw [d1, l_1]; omega) (by rw [d1, l_1]; omega), d1, l_1]
      apply Int32.toInt_inj.1
      rw [i1]
      have hkb : k < 68921 := by omega
      have e1 : (nI (cnF (tgK s q D) k)).toInt = (cnF (tgK s q D) k : Int) := nI_toInt (by omega)
      have hcl2 := cn_le (tgK s q D) (k + 41)
      rw [addI (by rw [d2, e1]; omega) (by rw [d2, e1]; omega), d2, e1, nI_toInt (by omega)]
      omega
    · rcases (show g = 0 ∨ g = 1 ∨ g = 2 by omega) with rfl | rfl | rfl
      · rw [r0, m70 0 (by omega), hm0]
        have := hml 0
        by_cases e : a < mnF (tgK s q D) (vv 0) k
        · rw [if_pos ((nI_ltI (by omega) (by omega)).2 e), Nat.min_eq_right (by omega)]
        · rw [if_neg (fun g => e ((nI_ltI (by omega) (by omega)).1 g)), Nat.min_eq_left (by omega)]
      · rw [r1, m70 1 (by omega), hm1]
        have := hml 1
        by_cases e : b < mnF (tgK s q D) (vv 1) k
        · rw [if_pos ((nI_ltI (by omega) (by omega)).2 e), Nat.min_eq_right (by omega)]
        · rw [if_neg (fun g => e ((nI_ltI (by omega) (by omega)).1 g)), Nat.min_eq_left (by omega)]
      · rw [r2, m70 2 (by omega)]
        have := hml 2
        have hml2 := mn_le (tgK s q D) (vv 2) (k + 41)
        apply Int32.toInt_inj.1
        rw [nI_toInt (show mnF (tgK s q D) (vv 2) (k + 41) < 2 ^ 31 by omega), hm2]
        simp only [i32_lt]
        rw [b3, nI_toInt (by omega)]
        split
        · rw [b3]; omega
        · rw [nI_toInt (by omega)]; omega
    · rcases (show g = 0 ∨ g = 1 ∨ g = 2 by omega) with rfl | rfl | rfl
      · rw [t0, hx0]
        simp only [i32_lt]
        rw [m71 0 (by omega), nI_toInt (by omega)]
        split
        · rw [nI_toInt (by omega)]; omega
        · rw [m71 0 (by omega)]; omega
      · rw [t1, hx1]
        simp only [i32_lt]
        rw [m71 1 (by omega), nI_toInt (by omega)]
        split
        · rw [nI_toInt (by omega)]; omega
        · rw [m71 1 (by omega)]; omega
      · rw [t2, hx2]
        simp only [i32_lt]
        rw [m71 2 (by omega), b4]
        split
        · rw [b4]; omega
        · rw [m71 2 (by omega)]; omega
