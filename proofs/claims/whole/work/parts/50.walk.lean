/-! ===== walks: where a step leads ===== -/
def tg (w : Nat → Bool) (at_ : Nat) (X Y : Int) : Nat := if X < 0 then 25 else if 5 ≤ X then 26 else if Y < 0 ∨ 5 ≤ Y then at_ else if w (5 * Y.toNat + X.toNat) then at_ else 5 * Y.toNat + X.toNat
theorem tg_lt {w : Nat → Bool} {at_ : Nat} (h : at_ < 25) (X Y : Int) : tg w at_ X Y < 27 := by
  unfold tg
  split
  · omega
  · split
    · omega
    · split
      · omega
      · split <;> omega
/-- one of the ways goes on -/
def gW (h : Nat → Nat) (at_ t : Nat) (acc : Nat → Nat) : Nat → Nat := un acc t (acc t + h at_)
/-- the class's four steps from a square -/
def cS (w : Nat → Bool) (h : Nat → Nat) (at_ : Nat) (acc : Nat → Nat) : Nat → Nat :=
  gW h at_ (tg w at_ ((at_ % 5 : Nat) : Int) ((at_ / 5 : Nat) + 1 : Int)) (gW h at_ (tg w at_ ((at_ % 5 : Nat) : Int) ((at_ / 5 : Nat) - 1 : Int)) (gW h at_ (tg w at_ ((at_ % 5 : Nat) + 1 : Int) ((at_ / 5 : Nat) : Int)) (gW h at_ (tg w at_ ((at_ % 5 : Nat) - 1 : Int) ((at_ / 5 : Nat) : Int)) acc)))
def cSs (w : Nat → Bool) (h acc : Nat → Nat) : Nat → Nat → Nat
  | 0 => acc
  | q + 1 => cS w h q (cSs w h acc q)
/-- the sums that a step begins with -/
def ac0 (b t : Nat) : Nat → Nat := fun j => if j = 25 then 4 * b else if j = 26 then 4 * t else 0
/-- (here, back, through) after a step -/
def nW (w : Nat → Bool) (x : (Nat → Nat) × Nat × Nat) : (Nat → Nat) × Nat × Nat := (cSs w x.1 (ac0 x.2.1 x.2.2) 25, cSs w x.1 (ac0 x.2.1 x.2.2) 25 25, cSs w x.1 (ac0 x.2.1 x.2.2) 25 26)
def nWs (w : Nat → Bool) (x : (Nat → Nat) × Nat × Nat) : Nat → (Nat → Nat) × Nat × Nat
  | 0 => x
  | i + 1 => nW w (nWs w x i)
def sq (f : Nat → Nat) : Nat → Nat
  | 0 => 0
  | n + 1 => sq f n + f n
theorem sq_un {f : Nat → Nat} {t v : Nat} : ∀ n, sq (un f t (f t + v)) n = sq f n + (if t < n then v else 0)
  | 0 => by rw [if_neg (by omega)]; rfl
  | n + 1 => by
    show sq (un f t (f t + v)) n + un f t (f t + v) n = sq f n + f n + _
    rw [sq_un n, un_at]
    by_cases e : n = t
    · subst e; rw [if_neg (by omega), if_pos rfl, if_pos (by omega)]; omega
    · rw [if_neg e]
      by_cases e2 : t < n
      · rw [if_pos e2, if_pos (by omega)]; omega
      · rw [if_neg e2, if_neg (by omega)]; omega
theorem sq_g {h acc : Nat → Nat} {at_ t : Nat} (ht : t < 27) : sq (gW h at_ t acc) 27 = sq acc 27 + h at_ := by
  unfold gW
  rw [sq_un, if_pos ht]
theorem sq_cS {w : Nat → Bool} {h acc : Nat → Nat} {at_ : Nat} (ha : at_ < 25) : sq (cS w h at_ acc) 27 = sq acc 27 + 4 * h at_ := by
  unfold cS
  rw [sq_g (tg_lt ha _ _), sq_g (tg_lt ha _ _), sq_g (tg_lt ha _ _), sq_g (tg_lt ha _ _)]
  omega
theorem sq_cSs {w : Nat → Bool} {h acc : Nat → Nat} : ∀ q, q ≤ 25 → sq (cSs w h acc q) 27 = sq acc 27 + 4 * sq h q
  | 0, _ => rfl
  | q + 1, hq => by
    show sq (cS w h q (cSs w h acc q)) 27 = _ + 4 * (sq h q + h q)
    rw [sq_cS (by omega), sq_cSs q (by omega)]
    omega
theorem sq_ac0 (b t : Nat) : sq (ac0 b t) 27 = 4 * b + 4 * t := by
  simp only [sq, ac0, reduceIte, Nat.reduceEqDiff]
  omega
/-- no way is lost -/
theorem nW_sum (w : Nat → Bool) (x : (Nat → Nat) × Nat × Nat) : sq (nW w x).1 25 + (nW w x).2.1 + (nW w x).2.2 = 4 * (sq x.1 25 + x.2.1 + x.2.2) := by
  have h := sq_cSs (w := w) (h := x.1) (acc := ac0 x.2.1 x.2.2) 25 (by omega)
  rw [sq_ac0] at h
  have e : sq (cSs w x.1 (ac0 x.2.1 x.2.2) 25) 27 = sq (cSs w x.1 (ac0 x.2.1 x.2.2) 25) 25 + cSs w x.1 (ac0 x.2.1 x.2.2) 25 25 + cSs w x.1 (ac0 x.2.1 x.2.2) 25 26 := rfl
  rw [e] at h
  show sq (cSs w x.1 (ac0 x.2.1 x.2.2) 25) 25 + cSs w x.1 (ac0 x.2.1 x.2.2) 25 25 + cSs w x.1 (ac0 x.2.1 x.2.2) 25 26 = _
  omega
theorem nWs_sum (w : Nat → Bool) (x : (Nat → Nat) × Nat × Nat) : ∀ i, sq (nWs w x i).1 25 + (nWs w x i).2.1 + (nWs w x i).2.2 = 4 ^ i * (sq x.1 25 + x.2.1 + x.2.2)
  | 0 => by rw [Nat.pow_zero, Nat.one_mul]; rfl
  | i + 1 => by
    show sq (nW w (nWs w x i)).1 25 + (nW w (nWs w x i)).2.1 + (nW w (nWs w x i)).2.2 = _
    rw [nW_sum, nWs_sum w x i, Nat.pow_succ, Nat.mul_assoc, Nat.mul_left_comm]
theorem sq_at {f : Nat → Nat} {k : Nat} : ∀ {n}, k < n → f k ≤ sq f n
  | 0, h => absurd h (by omega)
  | n + 1, h => by
    show f k ≤ sq f n + f n
    by_cases e : k = n
    · subst e; omega
    · have := sq_at (f := f) (k := k) (n := n) (by omega); omega
/-! in closed form -/
def wC (w : Nat → Bool) (h : Nat → Nat) (at_ j : Nat) : Nat :=
  (if tg w at_ ((at_ % 5 : Nat) - 1 : Int) ((at_ / 5 : Nat) : Int) = j then h at_ else 0) + (if tg w at_ ((at_ % 5 : Nat) + 1 : Int) ((at_ / 5 : Nat) : Int) = j then h at_ else 0) + (if tg w at_ ((at_ % 5 : Nat) : Int) ((at_ / 5 : Nat) - 1 : Int) = j then h at_ else 0) + (if tg w at_ ((at_ % 5 : Nat) : Int) ((at_ / 5 : Nat) + 1 : Int) = j then h at_ else 0)
theorem gW_at (h : Nat → Nat) (at_ t : Nat) (acc : Nat → Nat) (j : Nat) : gW h at_ t acc j = acc j + if t = j then h at_ else 0 := by
  unfold gW
  rw [un_at]
  by_cases e : j = t
  · subst e; rw [if_pos rfl, if_pos rfl]
  · rw [if_neg e, if_neg (fun e' => e e'.symm)]; rfl
theorem cSs_at (w : Nat → Bool) (h acc : Nat → Nat) (j : Nat) : ∀ q, cSs w h acc q j = acc j + sq (fun a => wC w h a j) q
  | 0 => rfl
  | q + 1 => by
    show cS w h q (cSs w h acc q) j = acc j + (sq (fun a => wC w h a j) q + wC w h q j)
    unfold cS
    rw [gW_at, gW_at, gW_at, gW_at, cSs_at w h acc j q]
    unfold wC
    omega
/-! the class's steps -/
def WS (w : Nat → Bool) (σ : Hp) (h acc : Nat → Nat) : Prop := (∀ k, k < 25 → σ.1 65 k = nI (h k)) ∧ (∀ k, k < 25 → σ.1 66 k = nI (acc k)) ∧ σ.1 63 4 = nI (acc 25) ∧ σ.1 63 3 = nI (acc 26) ∧ ∀ k, k < 25 → σ.1 64 k = if w k then 1 else 0
theorem c_go {w : Nat → Bool} {σ : Hp} {h acc : Nat → Nat} (hW : WS w σ h acc) {at_ : Nat} (ha : at_ < 25) {a2 a3 : Int32} (h2 : -1 ≤ a2.toInt ∧ a2.toInt ≤ 5) (h3 : -1 ≤ a3.toInt ∧ a3.toInt ≤ 5) : ∃ σ', f_X2_go (nI at_) a2 a3 σ = some σ' ∧ WS w σ' h (gW h at_ (tg w at_ a2.toInt a3.toInt) acc) ∧ fr [63, 66] σ σ' := by
  obtain ⟨w1, w2, w3, w4, w5⟩ := hW
  have st : ∀ t, t < 25 → WS w (sI σ 66 t (nI (acc t + h at_))) h (gW h at_ t acc) := fun t ht => by
    refine ⟨w1, fun k hk => ?_, ?_, ?_, w5⟩
    · show upd (σ.1 66) t _ k = _
      unfold gW
      rw [un_at]
      by_cases e : k = t
      · subst e; rw [pk_us, if_pos rfl]
      · rw [pk_un e, if_neg e]; exact w2 k hk
    · show σ.1 63 4 = nI (un acc t _ 25)
      rw [un_at, if_neg (by omega)]; exact w3
    · show σ.1 63 3 = nI (un acc t _ 26)
      rw [un_at, if_neg (by omega)]; exact w4
  have stay : tg w at_ a2.toInt a3.toInt = at_ → f_X2_go (nI at_) a2 a3 σ = f_X2_go_j67 (nI at_) σ () → ∃ σ', f_X2_go (nI at_) a2 a3 σ = some σ' ∧ WS w σ' h (gW h at_ (tg w at_ a2.toInt a3.toInt) acc) ∧ fr [63, 66] σ σ' := fun et eg => by
    refine ⟨sI σ 66 at_ (nI (acc at_ + h at_)), ?_, by rw [et]; exact st at_ ha, fr_s (by decide) (fr_0 _ _)⟩
    rw [eg]
    simp (disch := omega) only [f_X2_go_j67, ldI_n, stI_n, w1, w2, nI_add]
  unfold tg at stay ⊢
  by_cases c1 : a2.toInt < 0
  · rw [if_pos c1]
    refine ⟨sI σ 63 4 (nI (acc 25 + h at_)), ?_, ⟨w1, fun k hk => ?_, ?_, ?_, w5⟩, fr_s (by decide) (fr_0 _ _)⟩
    · simp (disch := omega) only [f_X2_go, i32_le, l_0, if_neg (show ¬ 0 ≤ a2.toInt by omega), ldI_n, w1, w3, lt_e, nI_add]
    · show σ.1 66 k = nI (un acc 25 _ k)
      rw [un_at, if_neg (by omega)]; exact w2 k hk
    · show nI _ = nI (un acc 25 _ 25)
      rw [un_at, if_pos rfl]
    · show upd (σ.1 63) 4 (nI (acc 25 + h at_)) 3 = nI (un acc 25 _ 26)
      rw [un_at, if_neg (by omega), pk_un (by omega)]; exact w4
  rw [if_neg c1] at stay ⊢
  by_cases c2 : 5 ≤ a2.toInt
  · rw [if_pos c2]
    refine ⟨sI σ 63 3 (nI (acc 26 + h at_)), ?_, ⟨w1, fun k hk => ?_, ?_, ?_, w5⟩, fr_s (by decide) (fr_0 _ _)⟩
    · simp (disch := omega) only [f_X2_go, i32_le, i32_lt, l_0, l_5, if_pos (show 0 ≤ a2.toInt by omega), if_neg (show ¬ a2.toInt < 5 by omega), ldI_n, w1, w4, lt_e, nI_add]
    · show σ.1 66 k = nI (un acc 26 _ k)
      rw [un_at, if_neg (by omega)]; exact w2 k hk
    · show upd (σ.1 63) 3 (nI (acc 26 + h at_)) 4 = nI (un acc 26 _ 25)
      rw [un_at, if_neg (by omega), pk_un (by omega)]; exact w3
    · show nI _ = nI (un acc 26 _ 26)
      rw [un_at, if_pos rfl]
  rw [if_neg c2] at stay ⊢
  by_cases c3 : a3.toInt < 0 ∨ 5 ≤ a3.toInt
  · refine (stay (if_pos c3) ?_)
    rw [if_pos c3] at stay
    simp (disch := omega) only [f_X2_go, jn_e, i32_le, i32_lt, l_0, l_5, if_pos (show 0 ≤ a2.toInt by omega), if_pos (show a2.toInt < 5 by omega)]
    rcases c3 with c3 | c3
    · rw [if_pos c3]
    · rw [if_neg (by omega), if_pos c3]
  · have ea := n_of (a := a2) (by omega)
    have eb := n_of (a := a3) (by omega)
    have hx : a2.toInt.toNat < 5 := by omega
    have hy : a3.toInt.toNat < 5 := by omega
    have e0 : a3 * 5 + a2 = nI (5 * a3.toInt.toNat + a2.toInt.toNat) := by
      rw [eb, ea, n_5, pk_mul, nI_add, Nat.mul_comm, nI_toInt (by omega), nI_toInt (by omega)]
      rfl
    rw [if_neg c3] at stay ⊢
    have e1 : ∀ v : Int32, σ.1 64 (5 * a3.toInt.toNat + a2.toInt.toNat) = v → f_X2_go (nI at_) a2 a3 σ = if v = 0 then ldI σ 66 25 (nI (5 * a3.toInt.toNat + a2.toInt.toNat)) fun v6 => ldI σ 65 25 (nI at_) fun v7 => stI σ 66 25 (nI (5 * a3.toInt.toNat + a2.toInt.toNat)) (v6 + v7) fun σ8 => some σ8 else f_X2_go_j67 (nI at_) σ () := fun v hv => by
      simp (disch := omega) only [f_X2_go, jn_e, i32_le, i32_lt, l_0, l_5, if_pos (show 0 ≤ a2.toInt by omega), if_pos (show a2.toInt < 5 by omega), if_neg (show ¬ a3.toInt < 0 by omega), if_neg (show ¬ 5 ≤ a3.toInt by omega), e0, ldI_n, hv]
    have w6 := w5 (5 * a3.toInt.toNat + a2.toInt.toNat) (by omega)
    by_cases c4 : w (5 * a3.toInt.toNat + a2.toInt.toNat)
    · refine stay (if_pos c4) ?_
      rw [if_pos c4] at w6
      rw [e1 _ w6, if_neg (by decide)]
    · rw [if_neg c4]
      rw [if_neg c4] at w6
      refine ⟨_, ?_, st _ (by omega), fr_s (by decide) (fr_0 _ _)⟩
      rw [e1 _ w6, if_pos rfl]
      simp (disch := omega) only [ldI_n, stI_n, w1, w2, nI_add]
theorem fill_e (kc nc : Nat) (hn : nc < 1000) (v : Int32) (σ : Hp) : ∃ σ', f_J7_fill_53178 kc nc v σ = some σ' ∧ (∀ k, k < nc → σ'.1 kc k = v) ∧ fr [kc] σ σ' := by
  unfold f_J7_fill_53178
  rw [lt_e]
  refine lp_h (Q := fun r => ∃ σ', r = some σ' ∧ (∀ k, k < nc → σ'.1 kc k = v) ∧ fr [kc] σ σ') nc (fun i ρ => (∀ k, k < i → ρ.1 kc k = v) ∧ fr [kc] σ ρ) ?_ ?_ (by omega) ⟨fun k hk => absurd hk (by omega), fr_0 _ _⟩
  · rintro i ρ hi ⟨h1, h2⟩ K
    refine ⟨sI ρ kc i v, ⟨fun k hk => ?_, fr_s (List.mem_singleton.2 rfl) h2⟩, ?_⟩
    · rw [sI_1, if_pos rfl]
      by_cases e : k = i
      · subst e; exact pk_us
      · rw [pk_un e]; exact h1 k (by omega)
    · have e : ¬ (Int32.ofNat nc ≤ nI i) := nI_ge hi (by omega)
      simp (disch := omega) only [f_J7_fill_53178_l5, if_neg e, stI_n, lt_e, nI_1]
  · rintro ρ ⟨h1, h2⟩ K
    refine ⟨ρ, ?_, h1, h2⟩
    have e : Int32.ofNat nc ≤ nI nc := nI_le (Nat.le_refl nc) (by omega)
    simp only [f_J7_fill_53178_l5, if_pos e]
def WR (w : Nat → Bool) (σ : Hp) (x : (Nat → Nat) × Nat × Nat) : Prop := (∀ k, k < 25 → σ.1 65 k = nI (x.1 k)) ∧ σ.1 63 4 = nI x.2.1 ∧ σ.1 63 3 = nI x.2.2 ∧ ∀ k, k < 25 → σ.1 64 k = if w k then 1 else 0
theorem gW_0 {h : Nat → Nat} {at_ t : Nat} {acc : Nat → Nat} (h0 : h at_ = 0) : gW h at_ t acc = acc := by
  funext j
  rw [gW_at, h0]
  split <;> rfl
theorem c_step {w : Nat → Bool} {σ : Hp} {x : (Nat → Nat) × Nat × Nat} (hW : WR w σ x) (hb : ∀ k, k < 25 → x.1 k < 2147483648) : ∃ σ', f_X2_step σ = some σ' ∧ WR w σ' (nW w x) ∧ fr [63, 65, 66] σ σ' := by
  obtain ⟨w1, w2, w3, w4⟩ := hW
  obtain ⟨σ1, a1, a2, a3⟩ := fill_e 66 25 (by omega) 0 σ
  have g3 : σ1.1 63 3 = nI x.2.2 := by rw [a3 63 (by decide)]; exact w3
  have g4 : σ1.1 63 4 = nI x.2.1 := by rw [a3 63 (by decide)]; exact w2
  generalize hs : sI (sI σ1 63 3 (nI (4 * x.2.2))) 63 4 (nI (4 * x.2.1)) = σ2
  have f2 : fr [63, 66] σ σ2 := by rw [← hs]; exact fr_s (by decide) (fr_s (by decide) (fr_m (by decide) a3))
  have hS : WS w σ2 x.1 (ac0 x.2.1 x.2.2) := by
    refine ⟨?_, fun k hk => ?_, ?_, ?_, ?_⟩
    · rw [f2 65 (by decide)]; exact w1
    · rw [← hs]
      show σ1.1 66 k = nI (if k = 25 then _ else if k = 26 then _ else 0)
      rw [if_neg (by omega), if_neg (by omega)]
      exact a2 k hk
    · rw [← hs]; rfl
    · rw [← hs]; rfl
    · rw [f2 64 (by decide)]; exact w4
  have e0 : f_X2_step σ = lp (f_X2_step_l30 f_X2_step_j103) FU ((0 : Int32), σ2) := by
    unfold f_X2_step
    rw [a1, cr_s, lt_e, g3, n_4, pk_mul, Nat.mul_comm x.2.2 4, lt_e]
    rw [show (sI σ1 63 3 (nI (4 * x.2.2))).1 63 4 = σ1.1 63 4 from rfl, g4, pk_mul, Nat.mul_comm x.2.1 4, hs, jn_e]
  rw [e0]
  refine lp_h (Q := fun r => ∃ σ', r = some σ' ∧ WR w σ' (nW w x) ∧ fr [63, 65, 66] σ σ') 25 (fun q ρ => WS w ρ x.1 (cSs w x.1 (ac0 x.2.1 x.2.2) q) ∧ fr [63, 66] σ ρ) ?_ ?_ (by omega) ⟨hS, f2⟩
  · rintro q ρ hq ⟨h1, h2⟩ K
    show ∃ σ', (WS w σ' x.1 (cS w x.1 q (cSs w x.1 (ac0 x.2.1 x.2.2) q)) ∧ fr [63, 66] σ σ') ∧ _
    generalize cSs w x.1 (ac0 x.2.1 x.2.2) q = acc at h1 ⊢
    have hbq := hb q hq
    by_cases hz : x.1 q = 0
    · refine ⟨ρ, ⟨?_, h2⟩, ?_⟩
      · unfold cS
        rw [gW_0 hz, gW_0 hz, gW_0 hz, gW_0 hz]
        exact h1
      · simp (disch := omega) only [f_X2_step_l30, f_X2_step_j97, show (25 : Int32) = nI 25 from rfl, le_f, ldI_n, h1.1, hz, n_0, jn_e, le_t, lt_e, nI_1]
    · have d5 : q - q / 5 * 5 = q % 5 := by omega
      have m5 : q % 5 < 5 := by omega
      have m6 : q / 5 < 5 := by omega
      have t1 : (nI (q % 5) - nI 1).toInt = ((q % 5 : Nat) : Int) - 1 := pk_sub_toInt (by omega) (by omega)
      have t2 : (nI (q % 5 + 1)).toInt = ((q % 5 : Nat) : Int) + 1 := by rw [nI_toInt (by omega)]; rfl
      have t3 : (nI (q / 5) - nI 1).toInt = ((q / 5 : Nat) : Int) - 1 := pk_sub_toInt (by omega) (by omega)
      have t4 : (nI (q / 5 + 1)).toInt = ((q / 5 : Nat) : Int) + 1 := by rw [nI_toInt (by omega)]; rfl
      have t5 : (nI (q % 5)).toInt = ((q % 5 : Nat) : Int) := nI_toInt (by omega)
      have t6 : (nI (q / 5)).toInt = ((q / 5 : Nat) : Int) := nI_toInt (by omega)
      obtain ⟨ρ1, u1, u2, u3⟩ := c_go h1 hq (a2 := nI (q % 5) - nI 1) (a3 := nI (q / 5)) (by rw [t1]; omega) (by rw [t6]; omega)
      obtain ⟨ρ2, v1, v2, v3⟩ := c_go u2 hq (a2 := nI (q % 5 + 1)) (a3 := nI (q / 5)) (by rw [t2]; omega) (by rw [t6]; omega)
      obtain ⟨ρ3, x1, x2, x3⟩ := c_go v2 hq (a2 := nI (q % 5)) (a3 := nI (q / 5) - nI 1) (by rw [t5]; omega) (by rw [t3]; omega)
      obtain ⟨ρ4, y1, y2, y3⟩ := c_go x2 hq (a2 := nI (q % 5)) (a3 := nI (q / 5 + 1)) (by rw [t5]; omega) (by rw [t4]; omega)
      refine ⟨ρ4, ⟨?_, fr_t h2 (fr_t u3 (fr_t v3 (fr_t x3 y3)))⟩, ?_⟩
      · rw [t1, t2, t3, t4, t5, t6] at y2
        exact y2
      · have e1 : nI q / nI 5 = nI (q / 5) := pk_div (by omega) (by omega) (by omega)
        have e2 : nI q - nI (q / 5) * nI 5 = nI (q % 5) := by rw [pk_mul, pk_sub (by omega), d5]
        simp (disch := omega) only [f_X2_step_l30, f_X2_step_j97, show (25 : Int32) = nI 25 from rfl, le_f, ldI_n, h1.1, n_0, n_1, n_5, jn_e, lt_e, dvI_n, e1, e2, nI_add, u1, v1, x1, y1, cr_s]
  · rintro ρ ⟨h1, h2⟩ K
    show ∃ σ', _ = some σ' ∧ WR w σ' (cSs w x.1 (ac0 x.2.1 x.2.2) 25, cSs w x.1 (ac0 x.2.1 x.2.2) 25 25, cSs w x.1 (ac0 x.2.1 x.2.2) 25 26) ∧ fr [63, 65, 66] σ σ'
    generalize cSs w x.1 (ac0 x.2.1 x.2.2) 25 = acc at h1
    obtain ⟨s1, s2, s3, s4, s5⟩ := h1
    refine ⟨sR ρ 65 (va_cpy (ρ.1 66) (ρ.1 65) 0 0 25), ?_, ⟨fun k hk => ?_, s3, s4, s5⟩, fr_r (by decide) (fr_m (by decide) h2)⟩
    · simp (disch := omega) only [f_X2_step_l30, f_X2_step_j103, show (25 : Int32) = nI 25 from rfl, le_t, cpI_n]
    · show va_cpy (ρ.1 66) (ρ.1 65) 0 0 25 k = nI (acc k)
      rw [cpy_at hk]
      exact s2 k hk
theorem pow4 : ∀ n, n < 13 → ((1 : Int32) <<< (((2 : Int32) * nI n) &&& 31)) = nI (4 ^ n) := by decide +kernel
def x0W (y : Nat) : (Nat → Nat) × Nat × Nat := (fun k => if k = 5 * y then 1 else 0, 0, 0)
theorem x0W_sum {y : Nat} (hy : y < 5) : sq (x0W y).1 25 + (x0W y).2.1 + (x0W y).2.2 = 1 := by
  rcases (by omega : y = 0 ∨ y = 1 ∨ y = 2 ∨ y = 3 ∨ y = 4) with rfl | rfl | rfl | rfl | rfl <;> rfl
theorem nWs_lt (w : Nat → Bool) {y : Nat} (hy : y < 5) {i : Nat} (hi : i ≤ 12) : (∀ k, k < 25 → (nWs w (x0W y) i).1 k ≤ 16777216) ∧ sq (nWs w (x0W y) i).1 25 + (nWs w (x0W y) i).2.1 + (nWs w (x0W y) i).2.2 = 4 ^ i ∧ 4 ^ i ≤ 16777216 := by
  have h := nWs_sum w (x0W y) i
  rw [x0W_sum hy, Nat.mul_one] at h
  have h4 : 4 ^ i ≤ 4 ^ 12 := Nat.pow_le_pow_right (by omega) hi
  have h4 : 4 ^ i ≤ 16777216 := h4
  refine ⟨fun k hk => ?_, h, h4⟩
  have := sq_at (f := (nWs w (x0W y) i).1) hk
  omega
/-- the class's answer -/
theorem c_ways {w : Nat → Bool} {σ : Hp} (hw : ∀ k, k < 25 → σ.1 64 k = if w k then 1 else 0) {y n : Nat} (hy : y < 5) (hn : n ≤ 12) {c : Int32} (hc : c = 0 ∨ c = 1 ∨ c = 2) : ∃ σ', f_X2_ways (nI y) (nI n) c σ = some (if w (5 * y) then (if c = 2 then nI (4 ^ n) else 0) else if c = 0 then nI (nWs w (x0W y) n).2.2 else if c = 1 then nI (nWs w (x0W y) n).2.1 else nI (sq (nWs w (x0W y) n).1 25), σ') ∧ fr [63, 65, 66] σ σ' := by
  have w0 := hw (5 * y) (by omega)
  unfold f_X2_ways
  rw [n_5, pk_mul, Nat.mul_comm y 5, ldI_n (by omega) (by omega), w0]
  by_cases e : w (5 * y)
  · rw [if_pos e, if_pos e, if_neg (by decide), jn_e]
    unfold f_X2_ways_j25
    refine ⟨σ, ?_, fr_0 _ _⟩
    by_cases e2 : c = 2
    · rw [if_pos e2, if_pos e2, pow4 n (by omega)]
    · rw [if_neg e2, if_neg e2]
  · rw [if_neg e, if_neg e, if_pos rfl]
    obtain ⟨σ1, a1, a2, a3⟩ := fill_e 65 25 (by omega) 0 σ
    rw [a1, cr_s, stI_n (by omega) (by omega), lt_e, lt_e, jn_e]
    generalize hs : sI (sI (sI σ1 65 (5 * y) 1) 63 3 0) 63 4 0 = σ2
    have f2 : fr [63, 65] σ σ2 := by rw [← hs]; exact fr_s (by decide) (fr_s (by decide) (fr_s (by decide) (fr_m (by decide) a3)))
    have hR : WR w σ2 (x0W y) := by
      refine ⟨fun k hk => ?_, by rw [← hs]; rfl, by rw [← hs]; rfl, by rw [f2 64 (by decide)]; exact hw⟩
      rw [← hs]
      show upd (σ1.1 65) (5 * y) 1 k = nI (if k = 5 * y then 1 else 0)
      by_cases e3 : k = 5 * y
      · subst e3; rw [pk_us, if_pos rfl]; rfl
      · rw [pk_un e3, if_neg e3]; exact a2 k hk
    refine lp_h (Q := fun r => ∃ σ', r = some (if c = 0 then nI (nWs w (x0W y) n).2.2 else if c = 1 then nI (nWs w (x0W y) n).2.1 else nI (sq (nWs w (x0W y) n).1 25), σ') ∧ fr [63, 65, 66] σ σ') n (fun i ρ => WR w ρ (nWs w (x0W y) i) ∧ fr [63, 65, 66] σ ρ) ?_ ?_ (by omega) ⟨hR, fr_m (by decide) f2⟩
    · rintro i ρ hi ⟨h1, h2⟩ K
      obtain ⟨b1, -, -⟩ := nWs_lt w hy (show i ≤ 12 by omega)
      obtain ⟨ρ1, g1, g2, g3⟩ := c_step h1 (fun k hk => by have := b1 k hk; omega)
      refine ⟨ρ1, ⟨g2, fr_t h2 g3⟩, ?_⟩
      simp (disch := omega) only [f_X2_ways_l56, le_f, g1, cr_s, lt_e, nI_1]
    · rintro ρ ⟨⟨h1, h3, h4, h5⟩, h2⟩ K
      obtain ⟨b1, b2, b3⟩ := nWs_lt w hy hn
      refine ⟨ρ, ?_, h2⟩
      have e5 : f_X2_ways_l56 (nI n) (f_X2_ways_j72 (nI n) c) K (nI n, ρ) = f_X2_ways_j72 (nI n) c ρ := by
        simp (disch := omega) only [f_X2_ways_l56, le_t]
      rw [e5]
      unfold f_X2_ways_j72 f_X2_ways_j108
      rw [h3, h4, jn_e, pow4 n (by omega)]
      rcases hc with rfl | rfl | rfl
      · rw [if_neg (by decide), if_pos rfl, if_pos rfl]
      · rw [if_neg (by decide), if_neg (by decide), if_neg (by decide), if_pos rfl]
      · rw [if_pos rfl, if_neg (by decide), if_neg (by decide), pk_sub (by omega), pk_sub (by omega), show 4 ^ n - (nWs w (x0W y) n).2.2 - (nWs w (x0W y) n).2.1 = sq (nWs w (x0W y) n).1 25 by omega]
/-! the model's steps: columns by rows -/
def TT (j : Nat) : Nat := 5 * (j % 5) + j / 5
theorem TT_lt {j : Nat} (h : j < 25) : TT j < 25 := by unfold TT; omega
theorem TT_TT {j : Nat} (h : j < 25) : TT (TT j) = j := by unfold TT; omega
theorem TT_dm {j : Nat} (h : j < 25) : TT j / 5 = j % 5 ∧ TT j % 5 = j / 5 := by unfold TT; omega
theorem TT_xy {x y : Nat} (hx : x < 5) (hy : y < 5) : TT (5 * y + x) = 5 * x + y := by unfold TT; omega
theorem sq_TT (f : Nat → Nat) : sq (fun k => f (TT k)) 25 = sq f 25 := by
  simp only [sq, TT, Nat.reduceMod, Nat.reduceDiv, Nat.reduceMul, Nat.reduceAdd, Nat.zero_add]
  omega
/-- where the model goes: nowhere, if the walk begins in a wall -/
def mT (b : Bool) (w : Nat → Bool) (at_ : Nat) (X Y : Int) : Nat := if b then at_ else tg w at_ X Y
theorem mT_lt {b : Bool} {w : Nat → Bool} {at_ : Nat} (h : at_ < 25) (X Y : Int) : mT b w at_ X Y < 27 := by
  unfold mT
  split
  · omega
  · exact tg_lt h X Y
def dX : Nat → Int | 0 => 1 | 1 => 0 | 2 => -1 | _ => 0
def dY : Nat → Int | 0 => 0 | 1 => 1 | 2 => 0 | _ => -1
def mD (b : Bool) (w : Nat → Bool) (h : Nat → Nat) (at_ : Nat) (acc : Nat → Nat) : Nat → Nat → Nat
  | 0 => acc
  | d + 1 => gW h at_ (mT b w at_ ((at_ % 5 : Nat) + dX d) ((at_ / 5 : Nat) + dY d)) (mD b w h at_ acc d)
def mSs (b : Bool) (w : Nat → Bool) (h acc : Nat → Nat) : Nat → Nat → Nat
  | 0 => acc
  | k + 1 => mD b w h (TT k) (mSs b w h acc k) 4
def nM (b : Bool) (w : Nat → Bool) (x : (Nat → Nat) × Nat × Nat) : (Nat → Nat) × Nat × Nat := (mSs b w x.1 (ac0 x.2.1 x.2.2) 25, mSs b w x.1 (ac0 x.2.1 x.2.2) 25 25, mSs b w x.1 (ac0 x.2.1 x.2.2) 25 26)
theorem mT_f (w : Nat → Bool) (a : Nat) (X Y : Int) : mT false w a X Y = tg w a X Y := if_neg (by decide)
theorem mT_t (w : Nat → Bool) (a : Nat) (X Y : Int) : mT true w a X Y = a := if_pos rfl
theorem mD_4 (b : Bool) (w : Nat → Bool) (h : Nat → Nat) (a : Nat) (acc : Nat → Nat) : mD b w h a acc 4 = gW h a (mT b w a ((a % 5 : Nat) + 0) ((a / 5 : Nat) + -1)) (gW h a (mT b w a ((a % 5 : Nat) + -1) ((a / 5 : Nat) + 0)) (gW h a (mT b w a ((a % 5 : Nat) + 0) ((a / 5 : Nat) + 1)) (gW h a (mT b w a ((a % 5 : Nat) + 1) ((a / 5 : Nat) + 0)) acc))) := rfl
theorem mSs_s (b : Bool) (w : Nat → Bool) (h acc : Nat → Nat) (q : Nat) : mSs b w h acc (q + 1) = mD b w h (TT q) (mSs b w h acc q) 4 := rfl
theorem sq_s (f : Nat → Nat) (n : Nat) : sq f (n + 1) = sq f n + f n := rfl
theorem mSs_at (w : Nat → Bool) (h acc : Nat → Nat) (j : Nat) : ∀ q, mSs false w h acc q j = acc j + sq (fun k => wC w h (TT k) j) q
  | 0 => rfl
  | q + 1 => by
    rw [mSs_s, sq_s, mD_4, gW_at, gW_at, gW_at, gW_at, mSs_at w h acc j q, mT_f, mT_f, mT_f, mT_f]
    unfold wC
    simp only [Int.add_zero, Int.sub_eq_add_neg]
    omega
theorem nM_f (w : Nat → Bool) (x : (Nat → Nat) × Nat × Nat) : nM false w x = nW w x := by
  have h : mSs false w x.1 (ac0 x.2.1 x.2.2) 25 = cSs w x.1 (ac0 x.2.1 x.2.2) 25 := by
    funext j
    rw [mSs_at, cSs_at, sq_TT (fun a => wC w x.1 a j)]
  unfold nM nW
  rw [h]
theorem mSs_w (w : Nat → Bool) (h acc : Nat → Nat) : ∀ q, q ≤ 25 → mSs true w h acc q 25 = acc 25 ∧ mSs true w h acc q 26 = acc 26 ∧ sq (mSs true w h acc q) 27 = sq acc 27 + 4 * sq (fun k => h (TT k)) q
  | 0, _ => ⟨rfl, rfl, rfl⟩
  | q + 1, hq => by
    obtain ⟨a1, a2, a3⟩ := mSs_w w h acc q (by omega)
    have hT := TT_lt (j := q) (by omega)
    have e : mSs true w h acc (q + 1) = gW h (TT q) (TT q) (gW h (TT q) (TT q) (gW h (TT q) (TT q) (gW h (TT q) (TT q) (mSs true w h acc q)))) := by rw [mSs_s, mD_4, mT_t, mT_t, mT_t, mT_t]
    rw [e]
    refine ⟨?_, ?_, ?_⟩
    · rw [gW_at, gW_at, gW_at, gW_at, if_neg (by omega)]; exact a1
    · rw [gW_at, gW_at, gW_at, gW_at, if_neg (by omega)]; exact a2
    · rw [sq_g (by omega), sq_g (by omega), sq_g (by omega), sq_g (by omega), a3]
      rw [sq_s (fun k => h (TT k)) q]
      omega
def nMs (b : Bool) (w : Nat → Bool) (x : (Nat → Nat) × Nat × Nat) : Nat → (Nat → Nat) × Nat × Nat
  | 0 => x
  | i + 1 => nM b w (nMs b w x i)
theorem nMs_f (w : Nat → Bool) (x : (Nat → Nat) × Nat × Nat) : ∀ i, nMs false w x i = nWs w x i
  | 0 => rfl
  | i + 1 => by
    show nM false w (nMs false w x i) = nW w (nWs w x i)
    rw [nMs_f w x i, nM_f]
theorem nMs_w (w : Nat → Bool) {y : Nat} (hy : y < 5) : ∀ i, (nMs true w (x0W y) i).2.1 = 0 ∧ (nMs true w (x0W y) i).2.2 = 0 ∧ sq (nMs true w (x0W y) i).1 25 = 4 ^ i
  | 0 => by
    have := x0W_sum hy
    exact ⟨rfl, rfl, by show sq (x0W y).1 25 = 1; have h1 : (x0W y).2.1 = 0 := rfl; have h2 : (x0W y).2.2 = 0 := rfl; omega⟩
  | i + 1 => by
    obtain ⟨a1, a2, a3⟩ := nMs_w w hy i
    obtain ⟨b1, b2, b3⟩ := mSs_w w (nMs true w (x0W y) i).1 (ac0 (nMs true w (x0W y) i).2.1 (nMs true w (x0W y) i).2.2) 25 (by omega)
    have es : nMs true w (x0W y) (i + 1) = nM true w (nMs true w (x0W y) i) := rfl
    have e27 : ∀ f : Nat → Nat, sq f 27 = sq f 25 + f 25 + f 26 := fun f => by rw [sq_s, sq_s]
    rw [es]
    unfold nM
    dsimp only
    generalize nMs true w (x0W y) i = x at a1 a2 a3 b1 b2 b3 ⊢
    rw [a1, a2] at b1 b2 b3 ⊢
    rw [e27, sq_ac0, sq_TT, a3, b1, b2] at b3
    rw [b1, b2]
    have z1 : ac0 0 0 25 = 0 := rfl
    have z2 : ac0 0 0 26 = 0 := rfl
    refine ⟨z1, z2, ?_⟩
    rw [z1, z2] at b3
    rw [Nat.pow_succ]
    omega
/-! the model's program -/
def MS (w : Nat → Bool) (τ : Hp) (h acc : Nat → Nat) : Prop := (∀ j, j < 25 → τ.1 133 (TT j) = nI (h j)) ∧ (∀ j, j < 25 → τ.1 134 (TT j) = nI (acc j)) ∧ (∀ j, j < 25 → τ.1 132 (TT j) = if w j then 1 else 0) ∧ τ.1 135 = z0.1 135 ∧ τ.1 136 = z0.1 136
theorem TT_inj {a b : Nat} (ha : a < 25) (hb : b < 25) (h : TT a = TT b) : a = b := by rw [← TT_TT ha, ← TT_TT hb, h]
theorem m_d {w : Nat → Bool} {y : Nat} (hy : y < 5) {τ : Hp} {h acc : Nat → Nat} (hM : MS w τ h acc) {a d : Nat} (ha : a < 25) (hd : d < 4) {t27 : Int32 × Int32 × Int32 × Hp} (h27 : t27.2.2.1 = nI (TT a)) (k336 : (Int32 × Int32 × Hp) → Option (Int32 × Hp)) (K : (Int32 × Int32 × Int32 × Hp) → Option (Int32 × Hp)) : ∃ τ', f_X12_walks_l158 (nI y) t27 k336 K (nI (acc 26), nI (acc 25), nI d, τ) = K (nI (gW h a (mT (w (5 * y)) w a ((a % 5 : Nat) + dX d) ((a / 5 : Nat) + dY d)) acc 26), nI (gW h a (mT (w (5 * y)) w a ((a % 5 : Nat) + dX d) ((a / 5 : Nat) + dY d)) acc 25), nI (d + 1), τ') ∧ MS w τ' h (gW h a (mT (w (5 * y)) w a ((a % 5 : Nat) + dX d) ((a / 5 : Nat) + dY d)) acc) ∧ fr [134] τ τ' := by
  obtain ⟨w1, w2, w3, w4, w5⟩ := hM
  have hTa := TT_lt ha
  obtain ⟨dm1, dm2⟩ := TT_dm ha
  have st : ∀ t, t < 25 → MS w (sI τ 134 (TT t) (nI (acc t + h a))) h (gW h a t acc) ∧ gW h a t acc 25 = acc 25 ∧ gW h a t acc 26 = acc 26 := fun t ht => by
    refine ⟨⟨w1, fun k hk => ?_, w3, w4, w5⟩, ?_, ?_⟩
    · show upd (τ.1 134) (TT t) _ (TT k) = _
      unfold gW
      rw [un_at]
      by_cases e : k = t
      · subst e; rw [pk_us, if_pos rfl]
      · rw [pk_un (fun e' => e (TT_inj hk ht e')), if_neg e]; exact w2 k hk
    · rw [gW_at, if_neg (by omega)]; rfl
    · rw [gW_at, if_neg (by omega)]; rfl
  have wy : τ.1 132 y = if w (5 * y) then 1 else 0 := by
    have := w3 (5 * y) (by omega)
    rw [show TT (5 * y) = y by unfold TT; omega] at this
    exact this
  have ex : ∃ vx : Int32, τ.1 135 d = vx ∧ (nI (TT a / 5) + vx).toInt = ((a % 5 : Nat) : Int) + dX d := by
    rw [w4, dm1]
    rcases (by omega : d = 0 ∨ d = 1 ∨ d = 2 ∨ d = 3) with rfl | rfl | rfl | rfl
    · exact ⟨1, rfl, by rw [show (1 : Int32) = nI 1 from rfl, nI_add, nI_toInt (by omega)]; rfl⟩
    · exact ⟨0, rfl, by rw [Int32.add_zero, nI_toInt (by omega)]; show _ = _ + (0 : Int); omega⟩
    · refine ⟨-1, rfl, ?_⟩
      rw [addI (by rw [nI_toInt (by omega), l_m1]; omega) (by rw [nI_toInt (by omega), l_m1]; omega), nI_toInt (by omega), l_m1]
      rfl
    · exact ⟨0, rfl, by rw [Int32.add_zero, nI_toInt (by omega)]; show _ = _ + (0 : Int); omega⟩
  have ey : ∃ vy : Int32, τ.1 136 d = vy ∧ (nI (TT a % 5) + vy).toInt = ((a / 5 : Nat) : Int) + dY d := by
    rw [w5, dm2]
    rcases (by omega : d = 0 ∨ d = 1 ∨ d = 2 ∨ d = 3) with rfl | rfl | rfl | rfl
    · exact ⟨0, rfl, by rw [Int32.add_zero, nI_toInt (by omega)]; show _ = _ + (0 : Int); omega⟩
    · exact ⟨1, rfl, by rw [show (1 : Int32) = nI 1 from rfl, nI_add, nI_toInt (by omega)]; rfl⟩
    · exact ⟨0, rfl, by rw [Int32.add_zero, nI_toInt (by omega)]; show _ = _ + (0 : Int); omega⟩
    · refine ⟨-1, rfl, ?_⟩
      rw [addI (by rw [nI_toInt (by omega), l_m1]; omega) (by rw [nI_toInt (by omega), l_m1]; omega), nI_toInt (by omega), l_m1]
      rfl
  obtain ⟨vx, ex1, ex2⟩ := ex
  obtain ⟨vy, ey1, ey2⟩ := ey
  have bx : -1 ≤ dX d ∧ dX d ≤ 1 ∧ -1 ≤ dY d ∧ dY d ≤ 1 := by
    rcases (by omega : d = 0 ∨ d = 1 ∨ d = 2 ∨ d = 3) with rfl | rfl | rfl | rfl <;> decide
  generalize dX d = DX at ex2 bx ⊢
  generalize dY d = DY at ey2 bx ⊢
  have e5 : nI (TT a) / nI 5 = nI (TT a / 5) := pk_div (by omega) (by omega) (by omega)
  have e6 : nI (TT a) - nI (TT a / 5) * nI 5 = nI (TT a % 5) := by rw [pk_mul, pk_sub (by omega)]; congr 1; omega
  -- the program, up to the branch
  have e0 : f_X12_walks_l158 (nI y) t27 k336 K (nI (acc 26), nI (acc 25), nI d, τ) = if τ.1 132 y = 0 then (if 0 ≤ nI (TT a / 5) + vx then if nI (TT a / 5) + vx ≤ (4 : Int32) then jn (f_X12_walks_j288 t27 (nI (acc 26), nI (acc 25), nI d, τ) (f_X12_walks_j330 (nI (acc 26), nI (acc 25), nI d, τ) K)) fun k288 => if nI (TT a % 5) + vy < 0 then k288 () else if (4 : Int32) < nI (TT a % 5) + vy then k288 () else ldI τ 132 25 (((5 : Int32) * (nI (TT a / 5) + vx)) + (nI (TT a % 5) + vy)) fun v42 => if v42 = 0 then ldI τ 134 25 (((5 : Int32) * (nI (TT a / 5) + vx)) + (nI (TT a % 5) + vy)) fun v43 => ldI τ 133 25 t27.2.2.1 fun v44 => stI τ 134 25 (((5 : Int32) * (nI (TT a / 5) + vx)) + (nI (TT a % 5) + vy)) (v43 + v44) fun σ45 => f_X12_walks_j330 (nI (acc 26), nI (acc 25), nI d, τ) K (nI (acc 26), nI (acc 25), σ45) else k288 () else ldI τ 133 25 t27.2.2.1 fun v46 => lt (nI (acc 26) + v46) fun x47 => f_X12_walks_j330 (nI (acc 26), nI (acc 25), nI d, τ) K (x47, nI (acc 25), τ) else ldI τ 133 25 t27.2.2.1 fun v48 => lt (nI (acc 25) + v48) fun x49 => f_X12_walks_j330 (nI (acc 26), nI (acc 25), nI d, τ) K (nI (acc 26), x49, τ)) else (ldI τ 134 25 (nI (TT a)) fun v50 => ldI τ 133 25 (nI (TT a)) fun v51 => stI τ 134 25 (nI (TT a)) (v50 + v51) fun σ52 => f_X12_walks_j330 (nI (acc 26), nI (acc 25), nI d, τ) K (nI (acc 26), nI (acc 25), σ52)) := by
    have f5 : (5 : Int32) = nI 5 := rfl
    unfold f_X12_walks_l158
    have d5 : ∀ x : Option (Int32 × Hp), dvI (5 : Int32) x = x := fun x => by rw [f5, dvI_n (by omega) (by omega)]
    have g4 : ¬ ((4 : Int32) ≤ nI d) := nI_ge (a := d) (b := 4) (by omega) (by omega)
    have i1 : nI (TT a) / (5 : Int32) = nI (TT a / 5) := e5
    have i2 : nI (TT a) - nI (TT a / 5) * (5 : Int32) = nI (TT a % 5) := e6
    dsimp only
    rw [if_neg g4, d5, ldI_n (by omega) (by omega), ex1, lt_e, d5, ldI_n (by omega) (by omega), ey1, lt_e, ldI_n (by omega) (by omega), jn_e, h27, i1, i2]
  -- staying
  have stay : f_X12_walks_j288 t27 (nI (acc 26), nI (acc 25), nI d, τ) (f_X12_walks_j330 (nI (acc 26), nI (acc 25), nI d, τ) K) () = K (nI (gW h a a acc 26), nI (gW h a a acc 25), nI (d + 1), sI τ 134 (TT a) (nI (acc a + h a))) := by
    obtain ⟨-, s2, s3⟩ := st a ha
    rw [s2, s3]
    unfold f_X12_walks_j288 f_X12_walks_j330
    simp (disch := omega) only [h27, ldI_n, stI_n, w1, w2, nI_add, lt_e, nI_1]
  rw [e0, wy]
  by_cases cb : w (5 * y)
  · have stay2 : (ldI τ 134 25 (nI (TT a)) fun v50 => ldI τ 133 25 (nI (TT a)) fun v51 => stI τ 134 25 (nI (TT a)) (v50 + v51) fun σ52 => f_X12_walks_j330 (nI (acc 26), nI (acc 25), nI d, τ) K (nI (acc 26), nI (acc 25), σ52)) = K (nI (gW h a a acc 26), nI (gW h a a acc 25), nI (d + 1), sI τ 134 (TT a) (nI (acc a + h a))) := by
      obtain ⟨-, s2, s3⟩ := st a ha
      rw [s2, s3]
      unfold f_X12_walks_j330
      simp (disch := omega) only [ldI_n, stI_n, w1, w2, nI_add, lt_e, nI_1]
    rw [if_pos cb, if_neg (by decide), cb, mT_t, stay2]
    exact ⟨_, rfl, (st a ha).1, fr_s (by decide) (fr_0 _ _)⟩
  rw [if_neg cb, if_pos rfl, Bool.eq_false_iff.mpr cb, mT_f]
  unfold tg
  simp only [i32_le, i32_lt, l_0, l_4, ex2, ey2]
  by_cases c1 : ((a % 5 : Nat) : Int) + DX < 0
  · rw [if_neg (by omega), if_pos c1]
    refine ⟨τ, ?_, ⟨w1, fun k hk => ?_, w3, w4, w5⟩, fr_0 _ _⟩
    · unfold f_X12_walks_j330
      simp (disch := omega) only [h27, ldI_n, w1, nI_add, lt_e, nI_1]
      rw [gW_at, gW_at, if_pos rfl, if_neg (by omega)]
      rfl
    · rw [gW_at, if_neg (by omega)]; exact w2 k hk
  rw [if_pos (by omega), if_neg c1]
  by_cases c2 : 5 ≤ ((a % 5 : Nat) : Int) + DX
  · rw [if_neg (by omega), if_pos c2]
    refine ⟨τ, ?_, ⟨w1, fun k hk => ?_, w3, w4, w5⟩, fr_0 _ _⟩
    · unfold f_X12_walks_j330
      simp (disch := omega) only [h27, ldI_n, w1, nI_add, lt_e, nI_1]
      rw [gW_at, gW_at, if_pos rfl, if_neg (by omega)]
      rfl
    · rw [gW_at, if_neg (by omega)]; exact w2 k hk
  rw [if_pos (by omega), if_neg c2, jn_e]
  by_cases c3 : ((a / 5 : Nat) : Int) + DY < 0 ∨ 5 ≤ ((a / 5 : Nat) : Int) + DY
  · rw [if_pos c3]
    refine ⟨_, ?_, (st a ha).1, fr_s (by decide) (fr_0 _ _)⟩
    rw [← stay]
    rcases c3 with c3 | c3
    · rw [if_pos c3]
    · rw [if_neg (by omega), if_pos (by omega)]
  rw [if_neg c3, if_neg (by omega), if_neg (by omega)]
  generalize hX : (((a % 5 : Nat) : Int) + DX).toNat = X
  generalize hY : (((a / 5 : Nat) : Int) + DY).toNat = Y
  have x1 : nI (TT a / 5) + vx = nI X := by rw [n_of (a := nI (TT a / 5) + vx) (by rw [ex2]; omega), ex2, hX]
  have y1 : nI (TT a % 5) + vy = nI Y := by rw [n_of (a := nI (TT a % 5) + vy) (by rw [ey2]; omega), ey2, hY]
  have hX5 : X < 5 := by omega
  have hY5 : Y < 5 := by omega
  have i1 : (5 : Int32) * nI X + nI Y = nI (TT (5 * Y + X)) := by rw [n_5, pk_mul, nI_add, TT_xy hX5 hY5]
  have hT := TT_lt (j := 5 * Y + X) (by omega)
  rw [x1, y1, i1, ldI_n hT (by omega), w3 _ (by omega)]
  by_cases c4 : w (5 * Y + X)
  · rw [if_pos c4, if_pos c4, if_neg (by decide), stay]
    exact ⟨_, rfl, (st a ha).1, fr_s (by decide) (fr_0 _ _)⟩
  · rw [if_neg c4, if_neg c4, if_pos rfl]
    obtain ⟨s1, s2, s3⟩ := st (5 * Y + X) (by omega)
    refine ⟨_, ?_, s1, fr_s (by decide) (fr_0 _ _)⟩
    rw [s2, s3]
    unfold f_X12_walks_j330
    simp (disch := omega) only [h27, ldI_n, stI_n, w1, w2, nI_add, lt_e, nI_1]
