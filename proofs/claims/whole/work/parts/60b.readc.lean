def tl (op code a1 : Int32) (g : Int32 → Hp → Option (Int32 × Hp)) (kl : (Int32 × Hp) → Option (Int32 × Hp)) (t3 : Int32 × Hp) : Option (Int32 × Hp) :=
  if (40 : Int32) ≤ t3.1 then ckZ (1 : Int32) (some ((1 : Int32), t3.2)) else cl (f_X6_skip op t3.2) fun v4 σ5 => if v4 = 0 then ckZ (1 : Int32) (some ((1 : Int32), σ5)) else cl (g a1 σ5) fun v6 σ7 => if v6 = 0 then ckZ (0 : Int32) (some ((0 : Int32), σ7)) else cr (f_X6_add code σ7) fun σ8 => lt (t3.1 + (1 : Int32)) fun x9 => kl (x9, σ8)
theorem tl_term (a1 : Int32) (g : Int32 → Hp → Option (Int32 × Hp)) : f_X6_term_l12 a1 g = tl 38 1 a1 g := rfl
theorem tl_test (a1 : Int32) (g : Int32 → Hp → Option (Int32 × Hp)) : f_X6_test_l12 a1 g = tl 124 2 a1 g := rfl
/-- what an operand's reading does, from every place -/
def OpC (σ0 : Hp) (L : Nat) (G : Nat → Nat × Option (List Int32)) (g : Hp → Option (Int32 × Hp)) : Prop := ∀ p acc σ, PicC σ0 σ L p acc → acc.length ≤ p → p ≤ L → ResC σ0 L p acc (G p) (g σ)
theorem loop_C {σ0 : Hp} {L : Nat} (hL : L ≤ 40) {op code a1 : Int32} (hop : op ≠ -1) {G : Nat → Nat × Option (List Int32)} {g : Int32 → Hp → Option (Int32 × Hp)} (hG : OpC σ0 L G (g a1)) {p0 : Nat} {acc : List Int32} (ha : acc.length ≤ p0) : ∀ kk i p sa σ m, kk + i = 40 → kk < m → p0 ≤ p → p ≤ L → sa.length + p0 ≤ p → PicC σ0 σ L p (acc ++ sa) → ResC σ0 L p0 acc (sLoop (σ0.1 30) L op code G kk p sa) (lp (tl op code a1 g) m (nI i, σ)) := by
  intro kk
  induction kk with
  | zero =>
    intro i p sa σ m hi hm h0 hp hs h
    match m, hm with
    | m + 1, hm =>
      rw [lp_succ]
      unfold tl sLoop
      dsimp only
      rw [show ∀ y z : Option (Int32 × Hp), (if (40 : Int32) ≤ nI i then y else z) = y from fun y z => le_t (a := 40) (by omega) (by omega), ckZ_1]
      exact res_so h0 hp hs h
  | succ kk ih =>
    intro i p sa σ m hi hm h0 hp hs h
    match m, hm with
    | m + 1, hm =>
      rw [lp_succ]
      obtain ⟨sk1, sk2⟩ := rc_skip h hL (by omega) op
      have hF : ∀ K, tl op code a1 g K (nI i, σ) = cl (f_X6_skip op σ) fun v4 σ5 => if v4 = 0 then some ((1 : Int32), σ5) else cl (g a1 σ5) fun v6 σ7 => if v6 = 0 then some ((0 : Int32), σ7) else cr (f_X6_add code σ7) fun σ8 => K (nI (i + 1), σ8) := fun K => by
        unfold tl
        dsimp only
        rw [show ∀ y z : Option (Int32 × Hp), (if (40 : Int32) ≤ nI i then y else z) = z from fun y z => le_f (a := 40) (by omega) (by omega)]
        simp only [lt_e, nI_1, ckZ_1, ckZ_0]
      rw [hF]
      unfold sLoop
      by_cases e : tx (σ0.1 30) L p = op
      · have hpl : p < L := tx_lt (fun e2 => hop (by rw [← e, e2]))
        obtain ⟨σ1, g1, g2⟩ := sk1 e
        rw [if_pos e, g1, cl_s, z1z]
        obtain ⟨⟨r1, r2⟩, r3, r4⟩ := hG (p + 1) (acc ++ sa) σ1 g2 (by rw [List.length_append]; omega) (by omega)
        match hx : G (p + 1) with
        | (q, none) =>
          rw [hx] at r1 r2 r3
          obtain ⟨σ2, acc', k1, k2⟩ := r3 rfl
          rw [k1, cl_s, z0z]
          unfold sThen
          exact res_no (by dsimp only at r1; omega) r2 k2
        | (q, some s) =>
          rw [hx] at r1 r2 r4
          obtain ⟨l1, σ2, k1, k2⟩ := r4 s rfl
          dsimp only at r1 r2 l1 k2
          rw [k1, cl_s, z1z]
          obtain ⟨σ3, a1', a2'⟩ := rc_add k2 (by rw [List.length_append, List.length_append]; omega) code
          rw [a1', cr_s]
          unfold sThen
          refine ih (i + 1) q (sa ++ s ++ [code]) σ3 m (by omega) (by omega) (by omega) r2 ?_ ?_
          · rw [List.length_append, List.length_append, List.length_singleton]; omega
          · rw [List.append_assoc, ← List.append_assoc acc, ← List.append_assoc]
            exact a2'
      · rw [if_neg e, sk2 e, cl_s, z0z]
        exact res_so h0 hp hs h
theorem seq_C {σ0 : Hp} {L : Nat} (hL : L ≤ 40) {op code a1 : Int32} (hop : op ≠ -1) {G : Nat → Nat × Option (List Int32)} {g : Int32 → Hp → Option (Int32 × Hp)} (hG : OpC σ0 L G (g a1)) : OpC σ0 L (sSeq (σ0.1 30) L op code G) (fun σ => cl (g a1 σ) fun v1 σ2 => if v1 = 0 then ckZ (0 : Int32) (some ((0 : Int32), σ2)) else lp (tl op code a1 g) FU ((0 : Int32), σ2)) := by
  intro p acc σ h ha hp
  obtain ⟨⟨r1, r2⟩, r3, r4⟩ := hG p acc σ h ha hp
  unfold sSeq
  dsimp only
  match hx : G p with
  | (q, none) =>
    rw [hx] at r1 r2 r3
    obtain ⟨σ2, acc', k1, k2⟩ := r3 rfl
    rw [k1, cl_s, z0z, ckZ_0]
    unfold sThen
    exact res_no r1 r2 k2
  | (q, some s) =>
    rw [hx] at r1 r2 r4
    obtain ⟨l1, σ2, k1, k2⟩ := r4 s rfl
    dsimp only at r1 r2 l1 k2
    rw [k1, cl_s, z1z]
    unfold sThen
    exact loop_C hL hop hG ha 40 0 q s σ2 FU rfl (by rw [FU_e]; omega) r1 r2 l1 k2
theorem part_C {σ0 : Hp} {L : Nat} (hL : L ≤ 40) {d : Nat} {G0 G2 : Nat → Nat × Option (List Int32)} {g0 g1 g2 : Int32 → Hp → Option (Int32 × Hp)} (hd : d ≤ 4) (h0 : d < 4 → OpC σ0 L G0 (g0 (nI (d + 1)))) (h2 : d < 4 → OpC σ0 L G2 (g2 (nI (d + 1)))) : OpC σ0 L (fun p => if tx (σ0.1 30) L p = 33 then (if d < 4 then sThen (G2 (p + 1)) (fun q s => (q, some (s ++ [0]))) else (p, none))
    else if tx (σ0.1 30) L p = 40 then (if d < 4 then sThen (G0 (p + 1)) (fun q s => if tx (σ0.1 30) L q = 41 then (q + 1, some s) else (q, none)) else (p, none))
    else sCmp (σ0.1 30) L p) (f_X6_part g0 g1 g2 (nI d)) := by
  intro p acc σ h ha hp
  dsimp only
  unfold f_X6_part
  rw [jn_e, h.1.2.2.1]
  have hlt : ∀ y z : Option (Int32 × Hp), (if nI d < (4 : Int32) then y else z) = if d < 4 then y else z := fun y z => by
    by_cases e : d < 4
    · rw [if_pos e, if_pos (show nI d < (4 : Int32) from (nI_ltI (b := 4) (by omega) (by omega)).2 e)]
    · rw [if_neg e, if_neg (show ¬ nI d < (4 : Int32) from fun g => e ((nI_ltI (b := 4) (by omega) (by omega)).1 g))]
  by_cases e1 : tx (σ0.1 30) L p = 33
  · rw [if_pos e1, if_pos e1]
    unfold f_X6_part_j14
    rw [jn_e, z1z]
    unfold f_X6_part_j33
    rw [hlt]
    have hpl : p < L := tx_lt (by rw [e1]; decide)
    by_cases hd4 : d < 4
    · rw [if_pos hd4, if_pos hd4]
      obtain ⟨σ1, k1, k2⟩ := rc_go h hL (by omega)
      rw [k1, cr_s, z1z, nI_1]
      obtain ⟨⟨r1, r2⟩, r3, r4⟩ := h2 hd4 (p + 1) acc σ1 k2 (by omega) (by omega)
      match hx : G2 (p + 1) with
      | (q, none) =>
        rw [hx] at r1 r2 r3
        obtain ⟨σ2, acc', k3, k4⟩ := r3 rfl
        rw [k3, cl_s, z0z, ckZ_0]
        exact res_no (by dsimp only at r1; omega) r2 k4
      | (q, some s) =>
        rw [hx] at r1 r2 r4
        obtain ⟨l1, σ2, k3, k4⟩ := r4 s rfl
        dsimp only at r1 r2 l1 k4
        rw [k3, cl_s, z1z]
        obtain ⟨σ3, a1', a2'⟩ := rc_add k4 (by rw [List.length_append]; omega) 0
        rw [a1', cr_s, ckZ_1]
        exact res_so (by omega) r2 (by rw [List.length_append, List.length_singleton]; omega) (by rw [← List.append_assoc]; exact a2')
    · rw [if_neg hd4, if_neg hd4, ckZ_0]
      exact res_no (Nat.le_refl _) hp h
  rw [if_neg e1, if_neg e1]
  unfold f_X6_part_j14
  rw [jn_e, z0z, h.1.2.2.1]
  by_cases e2 : tx (σ0.1 30) L p = 40
  · rw [if_pos e2, if_pos e2]
    unfold f_X6_part_j33
    rw [hlt]
    have hpl : p < L := tx_lt (by rw [e2]; decide)
    by_cases hd4 : d < 4
    · rw [if_pos hd4, if_pos hd4]
      obtain ⟨σ1, k1, k2⟩ := rc_go h hL (by omega)
      rw [k1, cr_s, z0z, nI_1]
      obtain ⟨⟨r1, r2⟩, r3, r4⟩ := h0 hd4 (p + 1) acc σ1 k2 (by omega) (by omega)
      unfold f_X6_part_j72 f_X6_part_j71
      match hx : G0 (p + 1) with
      | (q, none) =>
        rw [hx] at r1 r2 r3
        obtain ⟨σ2, acc', k3, k4⟩ := r3 rfl
        rw [k3, cl_s, jn_e, jn_e, z0z]
        exact res_no (by dsimp only at r1; omega) r2 k4
      | (q, some s) =>
        rw [hx] at r1 r2 r4
        obtain ⟨l1, σ2, k3, k4⟩ := r4 s rfl
        dsimp only at r1 r2 l1 k4
        rw [k3, cl_s, jn_e, jn_e, z1z]
        unfold sThen
        dsimp only
        obtain ⟨sk1, sk2⟩ := rc_skip k4 hL (by omega) 41
        by_cases e3 : tx (σ0.1 30) L q = 41
        · have hql : q < L := tx_lt (by rw [e3]; decide)
          obtain ⟨σ3, k5, k6⟩ := sk1 e3
          rw [if_pos e3, k5, cl_s, z1z, ckZ_1]
          exact res_so (by omega) hql (by omega) k6
        · rw [if_neg e3, sk2 e3, cl_s, z0z, ckZ_0]
          exact res_no (by omega) r2 k4
    · rw [if_neg hd4, if_neg hd4, ckZ_0]
      exact res_no (Nat.le_refl _) hp h
  rw [if_neg e2, if_neg e2]
  have hc := c_cmpR hL hp ha h
  obtain ⟨⟨r1, r2⟩, r3, r4⟩ := hc
  match hx : sCmp (σ0.1 30) L p with
  | (q, none) =>
    rw [hx] at r1 r2 r3
    obtain ⟨σ2, acc', k3, k4⟩ := r3 rfl
    rw [k3, cl_s, ckZ_0]
    exact res_no r1 r2 k4
  | (q, some s) =>
    rw [hx] at r1 r2 r4
    obtain ⟨l1, σ2, k3, k4⟩ := r4 s rfl
    rw [k3, cl_s, ckZ_1]
    exact res_so r1 r2 l1 k4
theorem all_C {σ0 : Hp} {L : Nat} (hL : L ≤ 40) : ∀ m d, d ≤ 4 → (3 * (4 - d) + 3 ≤ m → OpC σ0 L (sT (σ0.1 30) L m 0 d) (f_X6_tpp m 0 (nI d))) ∧ (3 * (4 - d) + 2 ≤ m → OpC σ0 L (sT (σ0.1 30) L m 1 d) (f_X6_tpp m 1 (nI d))) ∧ (3 * (4 - d) + 1 ≤ m → OpC σ0 L (sT (σ0.1 30) L m 2 d) (f_X6_tpp m 2 (nI d))) := by
  intro m
  induction m with
  | zero => intro d hd; exact ⟨fun h => absurd h (by omega), fun h => absurd h (by omega), fun h => absurd h (by omega)⟩
  | succ m ih =>
    intro d hd
    refine ⟨fun h => ?_, fun h => ?_, fun h => ?_⟩
    · exact seq_C (op := 124) (code := 2) (a1 := nI d) (g := f_X6_tpp m 1) hL (by decide) ((ih d hd).2.1 (by omega))
    · exact seq_C (op := 38) (code := 1) (a1 := nI d) (g := f_X6_tpp m 2) hL (by decide) ((ih d hd).2.2 (by omega))
    · exact part_C (g1 := f_X6_tpp m 1) hL hd (fun h4 => (ih (d + 1) (by omega)).1 (by omega)) (fun h4 => (ih (d + 1) (by omega)).2.2 (by omega))
