/-! ===== loops, frames, rows of naturals ===== -/
theorem lp_q {α β : Type} {F : (β → Option α) → β → Option α} {Q : Option α → Prop} (I : Nat → β → Prop) (h : ∀ k s, I k s → ∀ K, Q (F K s) ∨ ∃ k' s', k' < k ∧ I k' s' ∧ F K s = K s') : ∀ m k s, k < m → I k s → Q (lp F m s)
  | 0, k, s, hk, _ => absurd hk (by omega)
  | m + 1, k, s, hk, hs => by
    rw [lp_succ]
    rcases h k s hs (lp F m) with h1 | ⟨k', s', h1, h2, h3⟩
    · exact h1
    · rw [h3]; exact lp_q I h m k' s' (by omega) h2
/-- a loop that may end early, counted from i to N -/
theorem lp_e {α β : Type} {F : (β → Option α) → β → Option α} {Q : Option α → Prop} (N : Nat) (P : Nat → β → Prop) (hs : ∀ i s, i < N → P i s → ∀ K, Q (F K s) ∨ ∃ s', P (i + 1) s' ∧ F K s = K s') (hx : ∀ s, P N s → ∀ K, Q (F K s)) {s : β} (i : Nat) (hi : i ≤ N) (hN : N < 1099511627776) (h : P i s) : Q (lp F FU s) := by
  refine lp_q (fun k s => ∃ i, i + k = N ∧ P i s) ?_ FU (N - i) s (by rw [FU_e]; omega) ⟨i, by omega, h⟩
  rintro k s ⟨i, h1, h2⟩ K
  by_cases h3 : i = N
  · subst h3; exact Or.inl (hx s h2 K)
  · rcases hs i s (by omega) h2 K with h4 | ⟨s', h4, h5⟩
    · exact Or.inl h4
    · exact Or.inr ⟨N - (i + 1), s', by omega, ⟨i + 1, by omega, h4⟩, h5⟩
theorem lp_n {α β : Type} {F : (β → Option α) → β → Option α} {Q : Option α → Prop} (N : Nat) (P : Nat → β → Prop) (hs : ∀ i s, i < N → P i s → ∀ K, ∃ s', P (i + 1) s' ∧ F K s = K s') (hx : ∀ s, P N s → ∀ K, Q (F K s)) {s : β} (i : Nat) (hi : i ≤ N) (hN : N < 1099511627776) (h : P i s) : Q (lp F FU s) :=
  lp_e N P (fun i s h1 h2 K => Or.inr (hs i s h1 h2 K)) hx i hi hN h
/-- a loop over numbers, with a heap -/
theorem lp_h {α : Type} {F : ((Int32 × Hp) → Option α) → (Int32 × Hp) → Option α} {Q : Option α → Prop} (N : Nat) (R : Nat → Hp → Prop) (hs : ∀ i σ, i < N → R i σ → ∀ K, ∃ σ', R (i + 1) σ' ∧ F K (nI i, σ) = K (nI (i + 1), σ')) (hx : ∀ σ, R N σ → ∀ K, Q (F K (nI N, σ))) (hN : N < 1099511627776) {σ : Hp} (h : R 0 σ) : Q (lp F FU ((0 : Int32), σ)) := by
  refine lp_n N (fun i s => s.1 = nI i ∧ R i s.2) ?_ ?_ 0 (Nat.zero_le N) hN ⟨nI_0.symm, h⟩
  · rintro i ⟨x, σ⟩ h1 ⟨h2, h3⟩ K
    obtain rfl : x = nI i := h2
    obtain ⟨σ', h4, h5⟩ := hs i σ h1 h3 K
    exact ⟨(nI (i + 1), σ'), ⟨rfl, h4⟩, h5⟩
  · rintro ⟨x, σ⟩ ⟨h2, h3⟩ K
    obtain rfl : x = nI N := h2
    exact hx σ h3 K
/-- cells outside a list are as they were -/
def fr (l : List Nat) (σ σ' : Hp) : Prop := ∀ a, a ∉ l → σ'.1 a = σ.1 a
theorem fr_0 (l : List Nat) (σ : Hp) : fr l σ σ := fun _ _ => rfl
theorem fr_t {l : List Nat} {σ σ' σ'' : Hp} (h : fr l σ σ') (h' : fr l σ' σ'') : fr l σ σ'' := fun a ha => (h' a ha).trans (h a ha)
theorem fr_m {l l' : List Nat} {σ σ' : Hp} (hl : ∀ a, a ∈ l → a ∈ l') (h : fr l σ σ') : fr l' σ σ' := fun a ha => h a (fun h1 => ha (hl a h1))
theorem fr_s {l : List Nat} {σ σ' : Hp} {k j : Nat} {v : Int32} (hk : k ∈ l) (h : fr l σ σ') : fr l σ (sI σ' k j v) := fun a ha => by
  rw [sI_1, if_neg (show ¬ a = k from fun e => ha (by rw [e]; exact hk))]
  exact h a ha
theorem fr_r {l : List Nat} {σ σ' : Hp} {k : Nat} {f : Nat → Int32} (hk : k ∈ l) (h : fr l σ σ') : fr l σ (sR σ' k f) := fun a ha => by
  rw [sR_1, if_neg (show ¬ a = k from fun e => ha (by rw [e]; exact hk))]
  exact h a ha
theorem fr_l {l : List Nat} {σ σ' : Hp} {k : Nat} {f : Nat → Int64} (h : fr l σ σ') : fr l σ (sL σ' k f) := h
theorem fr_j {l : List Nat} {σ σ' : Hp} {k j : Nat} {v : Int64} (h : fr l σ σ') : fr l σ (sJ σ' k j v) := h
/-- rows of naturals -/
def nrow (f : Nat → Nat) : Nat → Int32 := fun k => nI (f k)
def un (f : Nat → Nat) (k v : Nat) : Nat → Nat := fun j => if j = k then v else f j
theorem nrow_at (f : Nat → Nat) (k : Nat) : nrow f k = nI (f k) := rfl
theorem un_at (f : Nat → Nat) (k v j : Nat) : un f k v j = if j = k then v else f j := rfl
theorem upd_nrow (f : Nat → Nat) (k v : Nat) : upd (nrow f) k (nI v) = nrow (un f k v) := by
  funext j
  unfold upd nrow un
  split <;> rfl
theorem nrow_of {f : Nat → Int32} (h : ∀ k, 0 ≤ (f k).toInt) : f = nrow (fun k => (f k).toInt.toNat) := funext fun k => nI_of_toInt (h k)
theorem nrow_inj {f : Nat → Nat} {k : Nat} (h : f k < 2 ^ 31) : (nrow f k).toInt = (f k : Int) := nI_toInt h
theorem n_0 : (0 : Int32) = nI 0 := rfl
theorem n_1 : (1 : Int32) = nI 1 := rfl
theorem n_2 : (2 : Int32) = nI 2 := rfl
theorem n_3 : (3 : Int32) = nI 3 := rfl
theorem n_4 : (4 : Int32) = nI 4 := rfl
theorem n_5 : (5 : Int32) = nI 5 := rfl
theorem n_6 : (6 : Int32) = nI 6 := rfl
theorem n_8 : (8 : Int32) = nI 8 := rfl
theorem n_9 : (9 : Int32) = nI 9 := rfl
theorem n_10 : (10 : Int32) = nI 10 := rfl
theorem n_24 : (24 : Int32) = nI 24 := rfl
theorem n_15 : (15 : Int32) = nI 15 := rfl
theorem n_40 : (40 : Int32) = nI 40 := rfl
theorem L_1000 : (1000 : Int64) = lN 1000 := rfl
theorem L_100 : (100 : Int64) = lN 100 := rfl
theorem L_10 : (10 : Int64) = lN 10 := rfl
theorem L_2G : (2000000000 : Int64) = lN 2000000000 := rfl
section DISCH
variable {α : Type}
theorem ldI_n {σ : Hp} {c n k : Nat} {f : Int32 → Option α} (h : k < n) (hn : k < 2147483648) : ldI σ c n (nI k) f = f (σ.1 c k) := by
  rw [ldI_ok (by rw [nI_toInt (by omega)]; omega) (by rw [nI_toInt (by omega)]; omega), nI_clamp (by omega)]
theorem stI_n {σ : Hp} {c n k : Nat} {v : Int32} {f : Hp → Option α} (h : k < n) (hn : k < 2147483648) : stI σ c n (nI k) v f = f (sI σ c k v) := by
  rw [stI_ok (by rw [nI_toInt (by omega)]; omega) (by rw [nI_toInt (by omega)]; omega), nI_clamp (by omega)]
theorem stZ_n {σ : Hp} {c n k : Nat} {v : Int32} {f : Hp → Option α} (h : k < n) (hn : k < 2147483648) : stZ σ c n (nI k) v f = f (sI σ c k (vp_nar .boolean v)) := by
  rw [stZ_ok (by rw [nI_toInt (by omega)]; omega) (by rw [nI_toInt (by omega)]; omega), nI_clamp (by omega)]
theorem ldJ_n {σ : Hp} {c n k : Nat} {f : Int64 → Option α} (h : k < n) (hn : k < 2147483648) : ldJ σ c n (nI k) f = f (σ.2 c k) := by
  rw [ldJ_ok (by rw [nI_toInt (by omega)]; omega) (by rw [nI_toInt (by omega)]; omega), nI_clamp (by omega)]
theorem stJ_n {σ : Hp} {c n k : Nat} {v : Int64} {f : Hp → Option α} (h : k < n) (hn : k < 2147483648) : stJ σ c n (nI k) v f = f (sJ σ c k v) := by
  rw [stJ_ok (by rw [nI_toInt (by omega)]; omega) (by rw [nI_toInt (by omega)]; omega), nI_clamp (by omega)]
theorem dvI_n {n : Nat} {x : Option α} (h : 0 < n) (hn : n < 2147483648) : dvI (nI n) x = x := if_neg (nI_ne0 h (by omega))
theorem dvJ_n {n : Nat} {x : Option α} (h : 0 < n) (hn : n < 9223372036854775808) : dvJ (lN n) x = x := by
  have e : (0 : Int64) = lN 0 := rfl
  refine if_neg ?_
  rw [e, pk_lEQ (by omega) (by omega)]
  omega
theorem ifp {P : Prop} [Decidable P] {x y : α} (h : P) : (if P then x else y) = x := if_pos h
theorem ifn {P : Prop} [Decidable P] {x y : α} (h : ¬ P) : (if P then x else y) = y := if_neg h
theorem le_t {a b : Nat} {x y : α} (h : a ≤ b) (hb : b < 2147483648) : (if nI a ≤ nI b then x else y) = x := if_pos (nI_le h (by omega))
theorem le_f {a b : Nat} {x y : α} (h : b < a) (hb : a < 2147483648) : (if nI a ≤ nI b then x else y) = y := if_neg (nI_ge h (by omega))
end DISCH
theorem shC {a b c : Nat} (ha : a < 2147483648) (hb : b < 2147483648) (h0 : 0 < c) (hc : c < 2147483648) : ((nI a).toInt64 * (nI b).toInt64) / lN c = lN (a * b / c) := by
  have h : a * b < 2 ^ 31 * 2 ^ 31 := Nat.mul_lt_mul'' (by omega) (by omega)
  rw [nI_l (by omega), nI_l (by omega), lN_mul, pk_lDiv (by omega) h0 (by omega)]
theorem mulm {a b m : Nat} (h : a ≤ b) : a * m ≤ b * m := Nat.mul_le_mul_right m h
theorem lp_hf {α : Type} {F : ((Int32 × Hp) → Option α) → (Int32 × Hp) → Option α} {Q : Option α → Prop} (lo hi : Nat) (R : Nat → Hp → Prop) (hs : ∀ i σ, lo ≤ i → i < hi → R i σ → ∀ K, ∃ σ', R (i + 1) σ' ∧ F K (nI i, σ) = K (nI (i + 1), σ')) (hx : ∀ σ, R hi σ → ∀ K, Q (F K (nI hi, σ))) (hl : lo ≤ hi) (hN : hi < 1099511627776) {σ : Hp} (h : R lo σ) : Q (lp F FU (nI lo, σ)) := by
  refine lp_n hi (fun i (s : Int32 × Hp) => lo ≤ i ∧ s.1 = nI i ∧ R i s.2) ?_ ?_ lo hl hN ⟨Nat.le_refl _, rfl, h⟩
  · rintro i ⟨x, σ⟩ h1 ⟨h0, h2, h3⟩ K
    obtain rfl : x = nI i := h2
    obtain ⟨σ', h4, h5⟩ := hs i σ h0 h1 h3 K
    exact ⟨(nI (i + 1), σ'), ⟨by omega, rfl, h4⟩, h5⟩
  · rintro ⟨x, σ⟩ ⟨h0, h2, h3⟩ K
    obtain rfl : x = nI hi := h2
    exact hx σ h3 K
/-- a loop whose states are known -/
theorem lp_d {α β : Type} {F : (β → Option α) → β → Option α} {Q : Option α → Prop} (N : Nat) (S : Nat → β) (hs : ∀ i, i < N → ∀ K, F K (S i) = K (S (i + 1))) (hx : ∀ K, Q (F K (S N))) (hN : N < 1099511627776) : Q (lp F FU (S 0)) := by
  refine lp_n N (fun i s => s = S i) ?_ ?_ 0 (Nat.zero_le _) hN rfl
  · rintro i s h1 rfl K
    exact ⟨S (i + 1), rfl, hs i h1 K⟩
  · rintro s rfl K
    exact hx K
