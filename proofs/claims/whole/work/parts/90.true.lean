/-! ===== the law is true ===== -/
def zb (v : Int32) : Int32 := if v = 0 then 0 else 1
theorem zb_k {α : Type} (v : Int32) (k : Int32 → α) : (if v = 0 then k 0 else k 1) = k (zb v) := by
  unfold zb
  split <;> rfl
theorem zb_01 (v : Int32) : zb v = 0 ∨ zb v = 1 := by
  unfold zb
  split
  · exact Or.inl rfl
  · exact Or.inr rfl
theorem ldS_n {α : Type} {xs : Nat → Int32} {N k : Nat} {f : Int32 → Option α} (h : k < N) (hN : N < 2147483648) : ldS xs N (nI k) f = f (xs k) := by
  unfold ldS
  have e := nI_toInt (n := k) (by omega)
  have e2 : (nI k).toNatClampNeg = k := by
    show (nI k).toInt.toNat = k
    rw [e]; rfl
  rw [e2, if_neg]
  rintro (h1 | h1)
  · have := (i32_lt _ _).1 h1
    rw [e] at this
    have h2 : (0 : Int32).toInt = 0 := rfl
    rw [h2] at this
    omega
  · omega
theorem st_odds (n : Nat) (a b c d e : Int32) {σ τ : Hp} (h : RR n σ τ) : Ok64 n (f_X11_odds a b c d e σ) (f_X12_odds a b c d e τ) := by
  rcases q_odds a b c d e σ τ with ⟨r, e1, e2⟩ | ⟨e1, e2⟩ | ⟨e1, e2⟩ | ⟨e1, e2⟩
  · rw [e1, e2]; exact ⟨_, _, _, rfl, rfl, RR_same h⟩
  · rw [e1, e2]; exact ok_refL h
  · rw [e1, e2]; exact ok_refL h
  · rw [e1, e2]; exact ok_refL h
section LT
variable {xs : Nat → Int32} {N n : Nat} {σ τ : Hp}
theorem lS (hN : N ≤ 3072) (hi : 6 * n + 6 ≤ N) : (∀ (α : Type) (f : Int32 → Option α), ldS xs N (nI (6 * n)) f = f (xs (6 * n))) ∧ (∀ (α : Type) (f : Int32 → Option α), ldS xs N (nI (6 * n) + (1 : Int32)) f = f (xs (6 * n + 1))) ∧ (∀ (α : Type) (f : Int32 → Option α), ldS xs N (nI (6 * n) + (2 : Int32)) f = f (xs (6 * n + 2))) ∧ (∀ (α : Type) (f : Int32 → Option α), ldS xs N (nI (6 * n) + (3 : Int32)) f = f (xs (6 * n + 3))) ∧ (∀ (α : Type) (f : Int32 → Option α), ldS xs N (nI (6 * n) + (4 : Int32)) f = f (xs (6 * n + 4))) ∧ ∀ (α : Type) (f : Int32 → Option α), ldS xs N (nI (6 * n) + (5 : Int32)) f = f (xs (6 * n + 5)) := by
  refine ⟨fun α f => ldS_n (by omega) (by omega), fun α f => ?_, fun α f => ?_, fun α f => ?_, fun α f => ?_, fun α f => ?_⟩
  · rw [show ((1 : Int32)) = nI 1 from rfl, nI_add]; exact ldS_n (by omega) (by omega)
  · rw [show ((2 : Int32)) = nI 2 from rfl, nI_add]; exact ldS_n (by omega) (by omega)
  · rw [show ((3 : Int32)) = nI 3 from rfl, nI_add]; exact ldS_n (by omega) (by omega)
  · rw [show ((4 : Int32)) = nI 4 from rfl, nI_add]; exact ldS_n (by omega) (by omega)
  · rw [show ((5 : Int32)) = nI 5 from rfl, nI_add]; exact ldS_n (by omega) (by omega)
theorem lw_room (hN : N ≤ 3072) (hi : 6 * n + 6 ≤ N) (hn : n < 512) (h : RR n σ τ) (k : Hp × Hp → Option Int32) : ∃ σ' τ', RR (n + 1) σ' τ' ∧ f_law_b212 xs N (nI (6 * n), σ, τ) k = k (σ', τ') := by
  obtain ⟨-, l1, l2, l3, l4, l5⟩ := lS (xs := xs) hN hi
  obtain ⟨r, σ', τ', e1, e2, e3⟩ := st_room n (xs (6 * n + 1)) (xs (6 * n + 2)) h
  refine ⟨σ', τ', e3, ?_⟩
  unfold f_law_b212
  dsimp only
  rw [l1, l2, e1, cl_s, l1, l2, e2, cl_s, if_pos rfl]
theorem lw_warm (hN : N ≤ 3072) (hi : 6 * n + 6 ≤ N) (hn : n < 512) (h : RR n σ τ) (k : Hp × Hp → Option Int32) : ∃ σ' τ', RR (n + 1) σ' τ' ∧ f_law_b245 xs N (nI (6 * n), σ, τ) k = k (σ', τ') := by
  obtain ⟨-, l1, l2, l3, l4, l5⟩ := lS (xs := xs) hN hi
  obtain ⟨r, σ', τ', e1, e2, e3⟩ := st_warm n (xs (6 * n + 1)) (xs (6 * n + 2)) h
  refine ⟨σ', τ', e3, ?_⟩
  unfold f_law_b245
  dsimp only
  rw [l1, l2, e1, cl_s, l1, l2, e2, cl_s, if_pos rfl]
theorem lw_gas (hN : N ≤ 3072) (hi : 6 * n + 6 ≤ N) (hn : n < 512) (h : RR n σ τ) (k : Hp × Hp → Option Int32) : ∃ σ' τ', RR (n + 1) σ' τ' ∧ f_law_b278 xs N (nI (6 * n), σ, τ) k = k (σ', τ') := by
  obtain ⟨-, l1, l2, l3, l4, l5⟩ := lS (xs := xs) hN hi
  obtain ⟨r, σ', τ', e1, e2, e3⟩ := st_gas n hn (xs (6 * n + 1)) (xs (6 * n + 2)) (xs (6 * n + 3)) (zb (xs (6 * n + 4))) (zb_01 _) h
  refine ⟨σ', τ', e3, ?_⟩
  unfold f_law_b278
  dsimp only
  rw [l1, l2, l3, l4, jn_e, zb_k (xs (6 * n + 4)) (f_law_j307 xs N (nI (6 * n), σ, τ) k (xs (6 * n + 1)) (xs (6 * n + 2)) (xs (6 * n + 3)))]
  unfold f_law_j307
  dsimp only
  rw [e1, cl_s, l1, l2, l3, l4, jn_e, zb_k (xs (6 * n + 4)) (f_law_j339 (nI (6 * n), σ, τ) k r σ' (xs (6 * n + 1)) (xs (6 * n + 2)) (xs (6 * n + 3)))]
  unfold f_law_j339
  dsimp only
  rw [e2, cl_s, if_pos rfl]
theorem lw_gives (hN : N ≤ 3072) (hi : 6 * n + 6 ≤ N) (hn : n < 512) (h : RR n σ τ) (k : Hp × Hp → Option Int32) : ∃ σ' τ', RR (n + 1) σ' τ' ∧ f_law_b347 xs N (nI (6 * n), σ, τ) k = k (σ', τ') := by
  obtain ⟨-, l1, l2, l3, l4, l5⟩ := lS (xs := xs) hN hi
  obtain ⟨r, σ', τ', e1, e2, e3⟩ := st_gives n (xs (6 * n + 1)) (xs (6 * n + 2)) (xs (6 * n + 3)) h
  refine ⟨σ', τ', e3, ?_⟩
  unfold f_law_b347
  dsimp only
  rw [l1, l2, l3, e1, cl_s, l1, l2, l3, e2, cl_s, if_pos rfl]
theorem lw_pipe (hN : N ≤ 3072) (hi : 6 * n + 6 ≤ N) (hn : n < 512) (h : RR n σ τ) (k : Hp × Hp → Option Int32) : ∃ σ' τ', RR (n + 1) σ' τ' ∧ f_law_b390 xs N (nI (6 * n), σ, τ) k = k (σ', τ') := by
  obtain ⟨-, l1, l2, l3, l4, l5⟩ := lS (xs := xs) hN hi
  obtain ⟨r, σ', τ', e1, e2, e3⟩ := st_pipe n (xs (6 * n + 1)) (xs (6 * n + 2)) (xs (6 * n + 3)) h
  refine ⟨σ', τ', e3, ?_⟩
  unfold f_law_b390
  dsimp only
  rw [l1, l2, l3, e1, cl_s, l1, l2, l3, e2, cl_s, if_pos rfl]
theorem lw_pump (hN : N ≤ 3072) (hi : 6 * n + 6 ≤ N) (hn : n < 512) (h : RR n σ τ) (k : Hp × Hp → Option Int32) : ∃ σ' τ', RR (n + 1) σ' τ' ∧ f_law_b433 xs N (nI (6 * n), σ, τ) k = k (σ', τ') := by
  obtain ⟨-, l1, l2, l3, l4, l5⟩ := lS (xs := xs) hN hi
  obtain ⟨r, σ', τ', e1, e2, e3⟩ := st_pump n (xs (6 * n + 1)) (xs (6 * n + 2)) (xs (6 * n + 3)) (xs (6 * n + 4)) (xs (6 * n + 5)) h
  refine ⟨σ', τ', e3, ?_⟩
  unfold f_law_b433
  dsimp only
  rw [l1, l2, l3, l4, l5, e1, cl_s, l1, l2, l3, l4, l5, e2, cl_s, if_pos rfl]
theorem lw_leak (hN : N ≤ 3072) (hi : 6 * n + 6 ≤ N) (hn : n < 512) (h : RR n σ τ) (k : Hp × Hp → Option Int32) : ∃ σ' τ', RR (n + 1) σ' τ' ∧ f_law_b496 xs N (nI (6 * n), σ, τ) k = k (σ', τ') := by
  obtain ⟨-, l1, l2, l3, l4, l5⟩ := lS (xs := xs) hN hi
  obtain ⟨r, σ', τ', e1, e2, e3⟩ := st_leak n (xs (6 * n + 1)) (xs (6 * n + 2)) (xs (6 * n + 3)) h
  refine ⟨σ', τ', e3, ?_⟩
  unfold f_law_b496
  dsimp only
  rw [l1, l2, l3, e1, cl_s, l1, l2, l3, e2, cl_s, if_pos rfl]
theorem lw_ticks (hN : N ≤ 3072) (hi : 6 * n + 6 ≤ N) (hn : n < 512) (h : RR n σ τ) (k : Hp × Hp → Option Int32) : ∃ σ' τ', RR (n + 1) σ' τ' ∧ f_law_b539 xs N (nI (6 * n), σ, τ) k = k (σ', τ') := by
  obtain ⟨-, l1, l2, l3, l4, l5⟩ := lS (xs := xs) hN hi
  obtain ⟨r, σ', τ', e1, e2, e3⟩ := st_ticks n hn (xs (6 * n + 1)) h
  refine ⟨σ', τ', e3, ?_⟩
  unfold f_law_b539
  dsimp only
  rw [l1, e1, cl_s, l1, e2, cl_s, if_pos rfl]
theorem lw_in (hN : N ≤ 3072) (hi : 6 * n + 6 ≤ N) (hn : n < 512) (h : RR n σ τ) (k : Hp × Hp → Option Int32) : ∃ σ' τ', RR (n + 1) σ' τ' ∧ f_law_b562 xs N (nI (6 * n), σ, τ) k = k (σ', τ') := by
  obtain ⟨-, l1, l2, l3, l4, l5⟩ := lS (xs := xs) hN hi
  obtain ⟨r, σ', τ', e1, e2, e3⟩ := st_in n hn (xs (6 * n + 1)) (xs (6 * n + 2)) (xs (6 * n + 3)) h
  refine ⟨σ', τ', e3, ?_⟩
  unfold f_law_b562
  dsimp only
  rw [l1, l2, l3, e1, cl_s, l1, l2, l3, e2, cl_s, if_pos rfl]
theorem lw_pumpOf (hN : N ≤ 3072) (hi : 6 * n + 6 ≤ N) (hn : n < 512) (h : RR n σ τ) (k : Hp × Hp → Option Int32) : ∃ σ' τ', RR (n + 1) σ' τ' ∧ f_law_b605 xs N (nI (6 * n), σ, τ) k = k (σ', τ') := by
  obtain ⟨-, l1, l2, l3, l4, l5⟩ := lS (xs := xs) hN hi
  obtain ⟨r, σ', τ', e1, e2, e3⟩ := st_pumpOf n hn (xs (6 * n + 1)) (xs (6 * n + 2)) h
  refine ⟨σ', τ', e3, ?_⟩
  unfold f_law_b605
  dsimp only
  rw [l1, l2, e1, cl_s, l1, l2, e2, cl_s, if_pos rfl]
theorem lw_all (hN : N ≤ 3072) (hi : 6 * n + 6 ≤ N) (hn : n < 512) (h : RR n σ τ) (k : Hp × Hp → Option Int32) : ∃ σ' τ', RR (n + 1) σ' τ' ∧ f_law_b638 xs N (nI (6 * n), σ, τ) k = k (σ', τ') := by
  obtain ⟨-, l1, l2, l3, l4, l5⟩ := lS (xs := xs) hN hi
  obtain ⟨r, σ', τ', e1, e2, e3⟩ := st_all n hn (xs (6 * n + 1)) (xs (6 * n + 2)) h
  refine ⟨σ', τ', e3, ?_⟩
  unfold f_law_b638
  dsimp only
  rw [l1, l2, e1, cl_s, l1, l2, e2, cl_s, if_pos rfl]
theorem lw_when (hN : N ≤ 3072) (hi : 6 * n + 6 ≤ N) (hn : n < 512) (h : RR n σ τ) (k : Hp × Hp → Option Int32) : ∃ σ' τ', RR (n + 1) σ' τ' ∧ f_law_b671 xs N (nI (6 * n), σ, τ) k = k (σ', τ') := by
  obtain ⟨-, l1, l2, l3, l4, l5⟩ := lS (xs := xs) hN hi
  obtain ⟨r, σ', τ', e1, e2, e3⟩ := st_when n hn (xs (6 * n + 1)) (xs (6 * n + 2)) (xs (6 * n + 3)) h
  refine ⟨σ', τ', e3, ?_⟩
  unfold f_law_b671
  dsimp only
  rw [l1, l2, l3, e1, cl_s, l1, l2, l3, e2, cl_s, if_pos rfl]
theorem lw_feed (hN : N ≤ 3072) (hi : 6 * n + 6 ≤ N) (hn : n < 512) (h : RR n σ τ) (k : Hp × Hp → Option Int32) : ∃ σ' τ', RR (n + 1) σ' τ' ∧ f_law_b714 xs N (nI (6 * n), σ, τ) k = k (σ', τ') := by
  obtain ⟨-, l1, l2, l3, l4, l5⟩ := lS (xs := xs) hN hi
  obtain ⟨r, σ', τ', e1, e2, e3⟩ := st_feed n (xs (6 * n + 1)) (((xs (6 * n + 2)).toInt64 <<< ((32 : Int32).toInt64 &&& 63)) ||| ((xs (6 * n + 3)).toInt64 &&& (4294967295 : Int64))) h
  refine ⟨σ', τ', e3, ?_⟩
  unfold f_law_b714
  dsimp only
  rw [l1, l2, l3, e1, cl_s, l1, l2, l3, e2, cl_s, if_pos rfl]
theorem lw_rule (hN : N ≤ 3072) (hi : 6 * n + 6 ≤ N) (hn : n < 512) (h : RR n σ τ) (k : Hp × Hp → Option Int32) : ∃ σ' τ', RR (n + 1) σ' τ' ∧ f_law_b777 (nI (6 * n), σ, τ) k = k (σ', τ') := by
  obtain ⟨r, σ', τ', e1, e2, e3⟩ := st_rule n  h
  refine ⟨σ', τ', e3, ?_⟩
  unfold f_law_b777
  dsimp only
  rw [e1, cl_s, e2, cl_s, if_pos rfl]
theorem lw_unrule (hN : N ≤ 3072) (hi : 6 * n + 6 ≤ N) (hn : n < 512) (h : RR n σ τ) (k : Hp × Hp → Option Int32) : ∃ σ' τ', RR (n + 1) σ' τ' ∧ f_law_b790 xs N (nI (6 * n), σ, τ) k = k (σ', τ') := by
  obtain ⟨-, l1, l2, l3, l4, l5⟩ := lS (xs := xs) hN hi
  obtain ⟨r, σ', τ', e1, e2, e3⟩ := st_unrule n (xs (6 * n + 1)) h
  refine ⟨σ', τ', e3, ?_⟩
  unfold f_law_b790
  dsimp only
  rw [l1, e1, cl_s, l1, e2, cl_s, if_pos rfl]
theorem lw_forbids (hN : N ≤ 3072) (hi : 6 * n + 6 ≤ N) (hn : n < 512) (h : RR n σ τ) (k : Hp × Hp → Option Int32) : ∃ σ' τ', RR (n + 1) σ' τ' ∧ f_law_b813 xs N (nI (6 * n), σ, τ) k = k (σ', τ') := by
  obtain ⟨-, l1, l2, l3, l4, l5⟩ := lS (xs := xs) hN hi
  obtain ⟨r, σ', τ', e1, e2, e3⟩ := st_forbids n hn (xs (6 * n + 1)) (zb (xs (6 * n + 2))) (zb_01 _) h
  refine ⟨σ', τ', e3, ?_⟩
  unfold f_law_b813
  dsimp only
  rw [l1, l2, jn_e, zb_k (xs (6 * n + 2)) (f_law_j832 xs N (nI (6 * n), σ, τ) k (xs (6 * n + 1)))]
  unfold f_law_j832
  dsimp only
  rw [e1, cl_s, l1, l2, jn_e, zb_k (xs (6 * n + 2)) (f_law_j854 (nI (6 * n), σ, τ) k r σ' (xs (6 * n + 1)))]
  unfold f_law_j854
  dsimp only
  rw [e2, cl_s, if_pos rfl]
theorem lw_valve (hN : N ≤ 3072) (hi : 6 * n + 6 ≤ N) (hn : n < 512) (h : RR n σ τ) (k : Hp × Hp → Option Int32) : ∃ σ' τ', RR (n + 1) σ' τ' ∧ f_law_b862 xs N (nI (6 * n), σ, τ) k = k (σ', τ') := by
  obtain ⟨-, l1, l2, l3, l4, l5⟩ := lS (xs := xs) hN hi
  obtain ⟨r, σ', τ', e1, e2, e3⟩ := st_valve n hn (xs (6 * n + 1)) (zb (xs (6 * n + 2))) (zb_01 _) h
  refine ⟨σ', τ', e3, ?_⟩
  unfold f_law_b862
  dsimp only
  rw [l1, l2, jn_e, zb_k (xs (6 * n + 2)) (f_law_j881 xs N (nI (6 * n), σ, τ) k (xs (6 * n + 1)))]
  unfold f_law_j881
  dsimp only
  rw [e1, cl_s, l1, l2, jn_e, zb_k (xs (6 * n + 2)) (f_law_j903 (nI (6 * n), σ, τ) k r σ' (xs (6 * n + 1)))]
  unfold f_law_j903
  dsimp only
  rw [e2, cl_s, if_pos rfl]
theorem lw_start (hN : N ≤ 3072) (hi : 6 * n + 6 ≤ N) (hn : n < 512) (h : RR n σ τ) (k : Hp × Hp → Option Int32) : ∃ σ' τ', RR (n + 1) σ' τ' ∧ f_law_b911 xs N (nI (6 * n), σ, τ) k = k (σ', τ') := by
  obtain ⟨-, l1, l2, l3, l4, l5⟩ := lS (xs := xs) hN hi
  obtain ⟨r, σ', τ', e1, e2, e3⟩ := st_start n hn (xs (6 * n + 1)) (zb (xs (6 * n + 2))) (zb_01 _) h
  refine ⟨σ', τ', e3, ?_⟩
  unfold f_law_b911
  dsimp only
  rw [l1, l2, jn_e, zb_k (xs (6 * n + 2)) (f_law_j930 xs N (nI (6 * n), σ, τ) k (xs (6 * n + 1)))]
  unfold f_law_j930
  dsimp only
  rw [e1, cl_s, l1, l2, jn_e, zb_k (xs (6 * n + 2)) (f_law_j952 (nI (6 * n), σ, τ) k r σ' (xs (6 * n + 1)))]
  unfold f_law_j952
  dsimp only
  rw [e2, cl_s, if_pos rfl]
theorem lw_warmUp (hN : N ≤ 3072) (hi : 6 * n + 6 ≤ N) (hn : n < 512) (h : RR n σ τ) (k : Hp × Hp → Option Int32) : ∃ σ' τ', RR (n + 1) σ' τ' ∧ f_law_b960 xs N (nI (6 * n), σ, τ) k = k (σ', τ') := by
  obtain ⟨-, l1, l2, l3, l4, l5⟩ := lS (xs := xs) hN hi
  obtain ⟨r, σ', τ', e1, e2, e3⟩ := st_warmUp n (xs (6 * n + 1)) h
  refine ⟨σ', τ', e3, ?_⟩
  unfold f_law_b960
  dsimp only
  rw [l1, e1, cl_s, l1, e2, cl_s, if_pos rfl]
theorem lw_undo (hN : N ≤ 3072) (hi : 6 * n + 6 ≤ N) (hn : n < 512) (h : RR n σ τ) (k : Hp × Hp → Option Int32) : ∃ σ' τ', RR (n + 1) σ' τ' ∧ f_law_b983 (nI (6 * n), σ, τ) k = k (σ', τ') := by
  obtain ⟨r, σ', τ', e1, e2, e3⟩ := st_undo n  h
  refine ⟨σ', τ', e3, ?_⟩
  unfold f_law_b983
  dsimp only
  rw [e1, cl_s, e2, cl_s, if_pos rfl]
theorem lw_redo (hN : N ≤ 3072) (hi : 6 * n + 6 ≤ N) (hn : n < 512) (h : RR n σ τ) (k : Hp × Hp → Option Int32) : ∃ σ' τ', RR (n + 1) σ' τ' ∧ f_law_b996 (nI (6 * n), σ, τ) k = k (σ', τ') := by
  obtain ⟨r, σ', τ', e1, e2, e3⟩ := st_redo n  h
  refine ⟨σ', τ', e3, ?_⟩
  unfold f_law_b996
  dsimp only
  rw [e1, cl_s, e2, cl_s, if_pos rfl]
theorem lw_order (hN : N ≤ 3072) (hi : 6 * n + 6 ≤ N) (hn : n < 512) (h : RR n σ τ) (k : Hp × Hp → Option Int32) : ∃ σ' τ', RR (n + 1) σ' τ' ∧ f_law_b1009 xs N (nI (6 * n), σ, τ) k = k (σ', τ') := by
  obtain ⟨-, l1, l2, l3, l4, l5⟩ := lS (xs := xs) hN hi
  obtain ⟨r, σ', τ', e1, e2, e3⟩ := st_order n hn (xs (6 * n + 1)) (xs (6 * n + 2)) h
  refine ⟨σ', τ', e3, ?_⟩
  unfold f_law_b1009
  dsimp only
  rw [l1, l2, e1, cl_s, l1, l2, e2, cl_s, if_pos rfl]
theorem lw_rest (hN : N ≤ 3072) (hi : 6 * n + 6 ≤ N) (hn : n < 512) (h : RR n σ τ) (k : Hp × Hp → Option Int32) : ∃ σ' τ', RR (n + 1) σ' τ' ∧ f_law_b1042 xs N (nI (6 * n), σ, τ) k = k (σ', τ') := by
  obtain ⟨-, l1, l2, l3, l4, l5⟩ := lS (xs := xs) hN hi
  obtain ⟨r, σ', τ', e1, e2, e3⟩ := st_rest n (xs (6 * n + 1)) (xs (6 * n + 2)) (xs (6 * n + 3)) h
  refine ⟨σ', τ', e3, ?_⟩
  unfold f_law_b1042
  dsimp only
  rw [l1, l2, l3, e1, cl_s, l1, l2, l3, e2, cl_s, if_pos ((lg_cmp_eq _ _).2 rfl)]
theorem lw_square (hN : N ≤ 3072) (hi : 6 * n + 6 ≤ N) (hn : n < 512) (h : RR n σ τ) (k : Hp × Hp → Option Int32) : ∃ σ' τ', RR (n + 1) σ' τ' ∧ f_law_b1086 xs N (nI (6 * n), σ, τ) k = k (σ', τ') := by
  obtain ⟨-, l1, l2, l3, l4, l5⟩ := lS (xs := xs) hN hi
  obtain ⟨r, σ', τ', e1, e2, e3⟩ := st_square n (xs (6 * n + 1)) (xs (6 * n + 2)) (zb (xs (6 * n + 3))) (zb_01 _) h
  refine ⟨σ', τ', e3, ?_⟩
  unfold f_law_b1086
  dsimp only
  rw [l1, l2, l3, jn_e, zb_k (xs (6 * n + 3)) (f_law_j1110 xs N (nI (6 * n), σ, τ) k (xs (6 * n + 1)) (xs (6 * n + 2)))]
  unfold f_law_j1110
  dsimp only
  rw [e1, cl_s, l1, l2, l3, jn_e, zb_k (xs (6 * n + 3)) (f_law_j1137 (nI (6 * n), σ, τ) k r σ' (xs (6 * n + 1)) (xs (6 * n + 2)))]
  unfold f_law_j1137
  dsimp only
  rw [e2, cl_s, if_pos rfl]
theorem lw_walks (hN : N ≤ 3072) (hi : 6 * n + 6 ≤ N) (hn : n < 512) (h : RR n σ τ) (k : Hp × Hp → Option Int32) : ∃ σ' τ', RR (n + 1) σ' τ' ∧ f_law_b1145 xs N (nI (6 * n), σ, τ) k = k (σ', τ') := by
  obtain ⟨-, l1, l2, l3, l4, l5⟩ := lS (xs := xs) hN hi
  obtain ⟨r, σ', τ', e1, e2, e3⟩ := st_walks n (xs (6 * n + 1)) (xs (6 * n + 2)) (xs (6 * n + 3)) h
  refine ⟨σ', τ', e3, ?_⟩
  unfold f_law_b1145
  dsimp only
  rw [l1, l2, l3, e1, cl_s, l1, l2, l3, e2, cl_s, if_pos rfl]
theorem lw_sees (hN : N ≤ 3072) (hi : 6 * n + 6 ≤ N) (hn : n < 512) (h : RR n σ τ) (k : Hp × Hp → Option Int32) : ∃ σ' τ', RR (n + 1) σ' τ' ∧ f_law_b1188 xs N (nI (6 * n), σ, τ) k = k (σ', τ') := by
  obtain ⟨-, l1, l2, l3, l4, l5⟩ := lS (xs := xs) hN hi
  obtain ⟨r, σ', τ', e1, e2, e3⟩ := st_sees n (xs (6 * n + 1)) (xs (6 * n + 2)) (xs (6 * n + 3)) h
  refine ⟨σ', τ', e3, ?_⟩
  unfold f_law_b1188
  dsimp only
  rw [l1, l2, l3, e1, cl_s, l1, l2, l3, e2, cl_s, if_pos rfl]
theorem lw_reads (hN : N ≤ 3072) (hi : 6 * n + 6 ≤ N) (hn : n < 512) (h : RR n σ τ) (k : Hp × Hp → Option Int32) : ∃ σ' τ', RR (n + 1) σ' τ' ∧ f_law_b1231 xs N (nI (6 * n), σ, τ) k = k (σ', τ') := by
  obtain ⟨-, l1, l2, l3, l4, l5⟩ := lS (xs := xs) hN hi
  obtain ⟨r, σ', τ', e1, e2, e3⟩ := st_reads n hn (xs (6 * n + 1)) (xs (6 * n + 2)) h
  refine ⟨σ', τ', e3, ?_⟩
  unfold f_law_b1231
  dsimp only
  rw [l1, l2, e1, cl_s, l1, l2, e2, cl_s, if_pos rfl]
theorem lw_reading (hN : N ≤ 3072) (hi : 6 * n + 6 ≤ N) (hn : n < 512) (h : RR n σ τ) (k : Hp × Hp → Option Int32) : ∃ σ' τ', RR (n + 1) σ' τ' ∧ f_law_b1264 xs N (nI (6 * n), σ, τ) k = k (σ', τ') := by
  obtain ⟨-, l1, l2, l3, l4, l5⟩ := lS (xs := xs) hN hi
  obtain ⟨r, σ', τ', e1, e2, e3⟩ := st_reading n (xs (6 * n + 1)) (xs (6 * n + 2)) h
  refine ⟨σ', τ', e3, ?_⟩
  unfold f_law_b1264
  dsimp only
  rw [l1, l2, e1, cl_s, l1, l2, e2, cl_s, if_pos rfl]
theorem lw_trueGas (hN : N ≤ 3072) (hi : 6 * n + 6 ≤ N) (hn : n < 512) (h : RR n σ τ) (k : Hp × Hp → Option Int32) : ∃ σ' τ', RR (n + 1) σ' τ' ∧ f_law_b1297 xs N (nI (6 * n), σ, τ) k = k (σ', τ') := by
  obtain ⟨-, l1, l2, l3, l4, l5⟩ := lS (xs := xs) hN hi
  obtain ⟨r, σ', τ', e1, e2, e3⟩ := st_trueGas n (xs (6 * n + 1)) (xs (6 * n + 2)) h
  refine ⟨σ', τ', e3, ?_⟩
  unfold f_law_b1297
  dsimp only
  rw [l1, l2, e1, cl_s, l1, l2, e2, cl_s, if_pos rfl]
theorem lw_stage (hN : N ≤ 3072) (hi : 6 * n + 6 ≤ N) (hn : n < 512) (h : RR n σ τ) (k : Hp × Hp → Option Int32) : ∃ σ' τ', RR (n + 1) σ' τ' ∧ f_law_b1330 xs N (nI (6 * n), σ, τ) k = k (σ', τ') := by
  obtain ⟨-, l1, l2, l3, l4, l5⟩ := lS (xs := xs) hN hi
  obtain ⟨r, σ', τ', e1, e2, e3⟩ := st_stage n (xs (6 * n + 1)) (xs (6 * n + 2)) (xs (6 * n + 3)) (xs (6 * n + 4)) (xs (6 * n + 5)) h
  refine ⟨σ', τ', e3, ?_⟩
  unfold f_law_b1330
  dsimp only
  rw [l1, l2, l3, l4, l5, e1, cl_s, l1, l2, l3, l4, l5, e2, cl_s, if_pos rfl]
theorem lw_restCold (hN : N ≤ 3072) (hi : 6 * n + 6 ≤ N) (hn : n < 512) (h : RR n σ τ) (k : Hp × Hp → Option Int32) : ∃ σ' τ', RR (n + 1) σ' τ' ∧ f_law_b1393 xs N (nI (6 * n), σ, τ) k = k (σ', τ') := by
  obtain ⟨-, l1, l2, l3, l4, l5⟩ := lS (xs := xs) hN hi
  obtain ⟨r, σ', τ', e1, e2, e3⟩ := st_restCold n (xs (6 * n + 1)) h
  refine ⟨σ', τ', e3, ?_⟩
  unfold f_law_b1393
  dsimp only
  rw [l1, e1, cl_s, l1, e2, cl_s, if_pos rfl]
theorem lw_load (hN : N ≤ 3072) (hi : 6 * n + 6 ≤ N) (hn : n < 512) (h : RR n σ τ) (k : Hp × Hp → Option Int32) : ∃ σ' τ', RR (n + 1) σ' τ' ∧ f_law_b1416 xs N (nI (6 * n), σ, τ) k = k (σ', τ') := by
  obtain ⟨-, l1, l2, l3, l4, l5⟩ := lS (xs := xs) hN hi
  obtain ⟨r, σ', τ', e1, e2, e3⟩ := st_load n (xs (6 * n + 1)) (xs (6 * n + 2)) h
  refine ⟨σ', τ', e3, ?_⟩
  unfold f_law_b1416
  dsimp only
  rw [l1, l2, e1, cl_s, l1, l2, e2, cl_s, if_pos rfl]
theorem lw_late (hN : N ≤ 3072) (hi : 6 * n + 6 ≤ N) (hn : n < 512) (h : RR n σ τ) (k : Hp × Hp → Option Int32) : ∃ σ' τ', RR (n + 1) σ' τ' ∧ f_law_b1449 xs N (nI (6 * n), σ, τ) k = k (σ', τ') := by
  obtain ⟨-, l1, l2, l3, l4, l5⟩ := lS (xs := xs) hN hi
  obtain ⟨r, σ', τ', e1, e2, e3⟩ := st_late n (xs (6 * n + 1)) (xs (6 * n + 2)) h
  refine ⟨σ', τ', e3, ?_⟩
  unfold f_law_b1449
  dsimp only
  rw [l1, l2, e1, cl_s, l1, l2, e2, cl_s, if_pos rfl]
theorem lw_spray (hN : N ≤ 3072) (hi : 6 * n + 6 ≤ N) (hn : n < 512) (h : RR n σ τ) (k : Hp × Hp → Option Int32) : ∃ σ' τ', RR (n + 1) σ' τ' ∧ f_law_b1482 xs N (nI (6 * n), σ, τ) k = k (σ', τ') := by
  obtain ⟨-, l1, l2, l3, l4, l5⟩ := lS (xs := xs) hN hi
  obtain ⟨r, σ', τ', e1, e2, e3⟩ := st_spray n (xs (6 * n + 1)) (xs (6 * n + 2)) h
  refine ⟨σ', τ', e3, ?_⟩
  unfold f_law_b1482
  dsimp only
  rw [l1, l2, e1, cl_s, l1, l2, e2, cl_s, if_pos rfl]
theorem lw_seen (hN : N ≤ 3072) (hi : 6 * n + 6 ≤ N) (hn : n < 512) (h : RR n σ τ) (k : Hp × Hp → Option Int32) : ∃ σ' τ', RR (n + 1) σ' τ' ∧ f_law_b1515 xs N (nI (6 * n), σ, τ) k = k (σ', τ') := by
  obtain ⟨-, l1, l2, l3, l4, l5⟩ := lS (xs := xs) hN hi
  obtain ⟨r, σ', τ', e1, e2, e3⟩ := st_seen n (xs (6 * n + 1)) (zb (xs (6 * n + 2))) (zb_01 _) h
  refine ⟨σ', τ', e3, ?_⟩
  unfold f_law_b1515
  dsimp only
  rw [l1, l2, jn_e, zb_k (xs (6 * n + 2)) (f_law_j1534 xs N (nI (6 * n), σ, τ) k (xs (6 * n + 1)))]
  unfold f_law_j1534
  dsimp only
  rw [e1, cl_s, l1, l2, jn_e, zb_k (xs (6 * n + 2)) (f_law_j1556 (nI (6 * n), σ, τ) k r σ' (xs (6 * n + 1)))]
  unfold f_law_j1556
  dsimp only
  rw [e2, cl_s, if_pos rfl]
theorem lw_anew (hN : N ≤ 3072) (hi : 6 * n + 6 ≤ N) (hn : n < 512) (h : RR n σ τ) (k : Hp × Hp → Option Int32) : ∃ σ' τ', RR (n + 1) σ' τ' ∧ f_law_b1564 (nI (6 * n), σ, τ) k = k (σ', τ') := by
  obtain ⟨r, σ', τ', e1, e2, e3⟩ := st_anew n  h
  refine ⟨σ', τ', e3, ?_⟩
  unfold f_law_b1564
  dsimp only
  rw [e1, cl_s, e2, cl_s, if_pos rfl]
theorem lw_hunt (hN : N ≤ 3072) (hi : 6 * n + 6 ≤ N) (hn : n < 512) (h : RR n σ τ) (k : Hp × Hp → Option Int32) : ∃ σ' τ', RR (n + 1) σ' τ' ∧ f_law_b1577 xs N (nI (6 * n), σ, τ) k = k (σ', τ') := by
  obtain ⟨-, l1, l2, l3, l4, l5⟩ := lS (xs := xs) hN hi
  obtain ⟨r, σ', τ', e1, e2, e3⟩ := st_hunt n (xs (6 * n + 1)) h
  refine ⟨σ', τ', e3, ?_⟩
  unfold f_law_b1577
  dsimp only
  rw [l1, e1, cl_s, l1, e2, cl_s, if_pos rfl]
theorem lw_odds (hN : N ≤ 3072) (hi : 6 * n + 6 ≤ N) (hn : n < 512) (h : RR n σ τ) (k : Hp × Hp → Option Int32) : ∃ σ' τ', RR (n + 1) σ' τ' ∧ f_law_b1600 xs N (nI (6 * n), σ, τ) k = k (σ', τ') := by
  obtain ⟨-, l1, l2, l3, l4, l5⟩ := lS (xs := xs) hN hi
  obtain ⟨r, σ', τ', e1, e2, e3⟩ := st_odds n (xs (6 * n + 1)) (xs (6 * n + 2)) (xs (6 * n + 3)) (xs (6 * n + 4)) (xs (6 * n + 5)) h
  refine ⟨σ', τ', e3, ?_⟩
  unfold f_law_b1600
  dsimp only
  rw [l1, l2, l3, l4, l5, e1, cl_s, l1, l2, l3, l4, l5, e2, cl_s, if_pos ((lg_cmp_eq _ _).2 rfl)]
theorem lw_offer (hN : N ≤ 3072) (hi : 6 * n + 6 ≤ N) (hn : n < 512) (h : RR n σ τ) (k : Hp × Hp → Option Int32) : ∃ σ' τ', RR (n + 1) σ' τ' ∧ f_law_b1664 xs N (nI (6 * n), σ, τ) k = k (σ', τ') := by
  obtain ⟨-, l1, l2, l3, l4, l5⟩ := lS (xs := xs) hN hi
  obtain ⟨r, σ', τ', e1, e2, e3⟩ := st_offer n (xs (6 * n + 1)) (xs (6 * n + 2)) (xs (6 * n + 3)) h
  refine ⟨σ', τ', e3, ?_⟩
  unfold f_law_b1664
  dsimp only
  rw [l1, l2, l3, e1, cl_s, l1, l2, l3, e2, cl_s, if_pos rfl]
theorem lw_plan (hN : N ≤ 3072) (hi : 6 * n + 6 ≤ N) (hn : n < 512) (h : RR n σ τ) (k : Hp × Hp → Option Int32) : ∃ σ' τ', RR (n + 1) σ' τ' ∧ f_law_b1707 xs N (nI (6 * n), σ, τ) k = k (σ', τ') := by
  obtain ⟨-, l1, l2, l3, l4, l5⟩ := lS (xs := xs) hN hi
  obtain ⟨r, σ', τ', e1, e2, e3⟩ := st_plan n (xs (6 * n + 1)) (xs (6 * n + 2)) h
  refine ⟨σ', τ', e3, ?_⟩
  unfold f_law_b1707
  dsimp only
  rw [l1, l2, e1, cl_s, l1, l2, e2, cl_s, if_pos rfl]
theorem lw_count (hN : N ≤ 3072) (hi : 6 * n + 6 ≤ N) (hn : n < 512) (h : RR n σ τ) (k : Hp × Hp → Option Int32) : ∃ σ' τ', RR (n + 1) σ' τ' ∧ f_law_b1740 xs N (nI (6 * n), σ, τ) k = k (σ', τ') := by
  obtain ⟨-, l1, l2, l3, l4, l5⟩ := lS (xs := xs) hN hi
  obtain ⟨r, e1, e2⟩ := st_count n (xs (6 * n + 1)) h
  refine ⟨σ, τ, RR_same h, ?_⟩
  unfold f_law_b1740
  dsimp only
  rw [l1, e1, cr_s, l1, e2, cr_s, if_pos rfl]
theorem lw_step (hN : N ≤ 3072) (hi : 6 * n + 6 ≤ N) (hn : n < 512) (h : RR n σ τ) (K : Int32 × Hp × Hp → Option Int32) : ∃ σ' τ', RR (n + 1) σ' τ' ∧ f_law_l18 xs N K (nI (6 * n), σ, τ) = K (nI (6 * (n + 1)), σ', τ') := by
  obtain ⟨l0, -⟩ := lS (xs := xs) hN hi
  have hk : ∀ p : Hp × Hp, f_law_j1763 (nI (6 * n), σ, τ) K p = K (nI (6 * (n + 1)), p.1, p.2) := fun p => by
    unfold f_law_j1763
    dsimp only
    rw [lt_e, show (6 : Int32) = nI 6 from rfl, nI_add, Nat.mul_add]
  have hf : ¬ (Int32.ofNat N - (6 : Int32)) < nI (6 * n) := by
    rw [i32_lt, nI_toInt (by omega)]
    have e : (Int32.ofNat N).toInt = N := nI_toInt (by omega)
    have e6 : (6 : Int32).toInt = 6 := rfl
    rw [subI (by rw [e, e6]; omega) (by rw [e, e6]; omega), e, e6]
    omega
  have fin : ∀ y : Option Int32, (∃ σ' τ', RR (n + 1) σ' τ' ∧ y = f_law_j1763 (nI (6 * n), σ, τ) K (σ', τ')) → ∃ σ' τ', RR (n + 1) σ' τ' ∧ y = K (nI (6 * (n + 1)), σ', τ') := fun y ⟨σ', τ', h1, h2⟩ => ⟨σ', τ', h1, by rw [h2, hk]⟩
  apply fin
  unfold f_law_l18
  dsimp only
  rw [if_neg hf, l0, jn_e]
  generalize xs (6 * n) &&& (63 : Int32) = c
  by_cases h0 : c = (0 : Int32)
  · rw [if_pos h0]; exact lw_room hN hi hn h _
  rw [if_neg h0]
  by_cases h1 : c = (1 : Int32)
  · rw [if_pos h1]; exact lw_warm hN hi hn h _
  rw [if_neg h1]
  by_cases h2 : c = (2 : Int32)
  · rw [if_pos h2]; exact lw_gas hN hi hn h _
  rw [if_neg h2]
  by_cases h3 : c = (3 : Int32)
  · rw [if_pos h3]; exact lw_gives hN hi hn h _
  rw [if_neg h3]
  by_cases h4 : c = (4 : Int32)
  · rw [if_pos h4]; exact lw_pipe hN hi hn h _
  rw [if_neg h4]
  by_cases h5 : c = (5 : Int32)
  · rw [if_pos h5]; exact lw_pump hN hi hn h _
  rw [if_neg h5]
  by_cases h6 : c = (6 : Int32)
  · rw [if_pos h6]; exact lw_leak hN hi hn h _
  rw [if_neg h6]
  by_cases h7 : c = (7 : Int32)
  · rw [if_pos h7]; exact lw_ticks hN hi hn h _
  rw [if_neg h7]
  by_cases h8 : c = (8 : Int32)
  · rw [if_pos h8]; exact lw_in hN hi hn h _
  rw [if_neg h8]
  by_cases h9 : c = (9 : Int32)
  · rw [if_pos h9]; exact lw_pumpOf hN hi hn h _
  rw [if_neg h9]
  by_cases h10 : c = (10 : Int32)
  · rw [if_pos h10]; exact lw_all hN hi hn h _
  rw [if_neg h10]
  by_cases h11 : c = (11 : Int32)
  · rw [if_pos h11]; exact lw_when hN hi hn h _
  rw [if_neg h11]
  by_cases h12 : c = (12 : Int32)
  · rw [if_pos h12]; exact lw_feed hN hi hn h _
  rw [if_neg h12]
  by_cases h13 : c = (13 : Int32)
  · rw [if_pos h13]; exact lw_rule hN hi hn h _
  rw [if_neg h13]
  by_cases h14 : c = (14 : Int32)
  · rw [if_pos h14]; exact lw_unrule hN hi hn h _
  rw [if_neg h14]
  by_cases h15 : c = (15 : Int32)
  · rw [if_pos h15]; exact lw_forbids hN hi hn h _
  rw [if_neg h15]
  by_cases h16 : c = (16 : Int32)
  · rw [if_pos h16]; exact lw_valve hN hi hn h _
  rw [if_neg h16]
  by_cases h17 : c = (17 : Int32)
  · rw [if_pos h17]; exact lw_start hN hi hn h _
  rw [if_neg h17]
  by_cases h18 : c = (18 : Int32)
  · rw [if_pos h18]; exact lw_warmUp hN hi hn h _
  rw [if_neg h18]
  by_cases h19 : c = (19 : Int32)
  · rw [if_pos h19]; exact lw_undo hN hi hn h _
  rw [if_neg h19]
  by_cases h20 : c = (20 : Int32)
  · rw [if_pos h20]; exact lw_redo hN hi hn h _
  rw [if_neg h20]
  by_cases h21 : c = (21 : Int32)
  · rw [if_pos h21]; exact lw_order hN hi hn h _
  rw [if_neg h21]
  by_cases h22 : c = (22 : Int32)
  · rw [if_pos h22]; exact lw_rest hN hi hn h _
  rw [if_neg h22]
  by_cases h23 : c = (23 : Int32)
  · rw [if_pos h23]; exact lw_square hN hi hn h _
  rw [if_neg h23]
  by_cases h24 : c = (24 : Int32)
  · rw [if_pos h24]; exact lw_walks hN hi hn h _
  rw [if_neg h24]
  by_cases h25 : c = (25 : Int32)
  · rw [if_pos h25]; exact lw_sees hN hi hn h _
  rw [if_neg h25]
  by_cases h26 : c = (26 : Int32)
  · rw [if_pos h26]; exact lw_reads hN hi hn h _
  rw [if_neg h26]
  by_cases h27 : c = (27 : Int32)
  · rw [if_pos h27]; exact lw_reading hN hi hn h _
  rw [if_neg h27]
  by_cases h28 : c = (28 : Int32)
  · rw [if_pos h28]; exact lw_trueGas hN hi hn h _
  rw [if_neg h28]
  by_cases h29 : c = (29 : Int32)
  · rw [if_pos h29]; exact lw_stage hN hi hn h _
  rw [if_neg h29]
  by_cases h30 : c = (30 : Int32)
  · rw [if_pos h30]; exact lw_restCold hN hi hn h _
  rw [if_neg h30]
  by_cases h31 : c = (31 : Int32)
  · rw [if_pos h31]; exact lw_load hN hi hn h _
  rw [if_neg h31]
  by_cases h32 : c = (32 : Int32)
  · rw [if_pos h32]; exact lw_late hN hi hn h _
  rw [if_neg h32]
  by_cases h33 : c = (33 : Int32)
  · rw [if_pos h33]; exact lw_spray hN hi hn h _
  rw [if_neg h33]
  by_cases h34 : c = (34 : Int32)
  · rw [if_pos h34]; exact lw_seen hN hi hn h _
  rw [if_neg h34]
  by_cases h35 : c = (35 : Int32)
  · rw [if_pos h35]; exact lw_anew hN hi hn h _
  rw [if_neg h35]
  by_cases h36 : c = (36 : Int32)
  · rw [if_pos h36]; exact lw_hunt hN hi hn h _
  rw [if_neg h36]
  by_cases h37 : c = (37 : Int32)
  · rw [if_pos h37]; exact lw_odds hN hi hn h _
  rw [if_neg h37]
  by_cases h38 : c = (38 : Int32)
  · rw [if_pos h38]; exact lw_offer hN hi hn h _
  rw [if_neg h38]
  by_cases h39 : c = (39 : Int32)
  · rw [if_pos h39]; exact lw_plan hN hi hn h _
  rw [if_neg h39]
  by_cases h40 : c = (40 : Int32)
  · rw [if_pos h40]; exact lw_count hN hi hn h _
  rw [if_neg h40]
  exact ⟨σ, τ, RR_same h, rfl⟩
end LT
theorem law_true {xs : Nat → Int32} {L : Nat} (hL : L ≤ 3072) : f_law xs L z0 z0 = some 1 := by
  unfold f_law
  have hstop : ∀ n, L < 6 * n + 6 → 6 * n ≤ 3072 → (Int32.ofNat L - (6 : Int32)) < nI (6 * n) := fun n h1 h2 => by
    rw [i32_lt, nI_toInt (by omega)]
    have e : (Int32.ofNat L).toInt = L := nI_toInt (by omega)
    have e6 : (6 : Int32).toInt = 6 := rfl
    rw [subI (by rw [e, e6]; omega) (by rw [e, e6]; omega), e, e6]
    omega
  refine lp_e (Q := fun y => y = some 1) 512 (fun n s => s.1 = nI (6 * n) ∧ RR n s.2.1 s.2.2) ?_ ?_ 0 (by omega) (by omega) ⟨rfl, RR_0⟩
  · rintro n ⟨i, σ, τ⟩ hn ⟨h1, h2⟩ K
    obtain rfl : i = nI (6 * n) := h1
    have h2 : RR n σ τ := h2
    by_cases c : 6 * n + 6 ≤ L
    · obtain ⟨σ', τ', e1, e2⟩ := lw_step (xs := xs) hL c hn h2 K
      exact Or.inr ⟨_, ⟨rfl, e1⟩, e2⟩
    · left
      unfold f_law_l18
      dsimp only
      rw [if_pos (hstop n (by omega) (by omega))]
  · rintro ⟨i, σ, τ⟩ ⟨h1, h2⟩ K
    obtain rfl : i = nI (6 * 512) := h1
    unfold f_law_l18
    dsimp only
    rw [if_pos (hstop 512 (by omega) (by omega))]

