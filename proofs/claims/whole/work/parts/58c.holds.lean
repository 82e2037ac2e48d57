theorem ldA_n {α : Type} {k n r : Nat} {f : Nat → Option α} (h : r < n) (hn : r < 2147483648) : ldA k n (nI r) f = f (k + 1 + r) := by
  unfold ldA
  rw [if_neg, nI_clamp (by omega)]
  rintro (h1 | h1)
  · exact nI_pos (n := r) (by omega) h1
  · rw [nI_clamp (by omega)] at h1; omega
theorem c_holds {ev : Int32 → Bool} {σ : Hp} {on : Int32} {r : Nat} {S : List Int32} {b : Bool} (hr : r < 16) (h34 : σ.1 34 r = nI S.length) (hS : S.length ≤ 40) (hst : ∀ k, k < S.length → S[k]? = some (σ.1 (36 + r) k)) (hev : ∀ k, k < S.length → ¬ (σ.1 (36 + r) k &&& 3 = 0) → ¬ (σ.1 (36 + r) k &&& 3 = 1) → ¬ (σ.1 (36 + r) k &&& 3 = 2) → f_X8_compares (σ.1 (36 + r) k) on σ = some (oB (ev (σ.1 (36 + r) k)))) (hrun : runP ev S [] = some [b]) : f_X8_holds (nI r) on σ = some (oB b) := by
  unfold f_X8_holds
  rw [jn_e]
  refine lp_n (s := ((0 : Int64), (0 : Int32))) (Q := fun y => y = some (oB b)) S.length (fun k (s : Int64 × Int32) => s.2 = nI k ∧ ∃ st, Rep st s.1 ∧ st.length ≤ k ∧ runP ev (S.drop k) st = some [b]) ?_ ?_ 0 (Nat.zero_le _) (by omega) ⟨rfl, [], rep_0, Nat.le_refl _, hrun⟩
  · rintro k ⟨x, q⟩ hk ⟨h0, st, h1, h2, h3⟩ K
    obtain rfl : q = nI k := h0
    dsimp only at h1
    have hd : S.drop k = σ.1 (36 + r) k :: S.drop (k + 1) := by
      rw [List.drop_eq_getElem_cons hk]
      congr 1
      have := hst k hk
      rw [List.getElem?_eq_getElem hk] at this
      exact Option.some.inj this
    rw [hd] at h3
    obtain ⟨st', x', g1, g2, g3, g4⟩ := run_step h1 (by omega) h3 (f_X8_compares (σ.1 (36 + r) k) on σ) (hev k hk) (fun y => K (y, nI (k + 1)))
    refine ⟨(x', nI (k + 1)), ⟨rfl, st', g1, by omega, g3⟩, ?_⟩
    refine Eq.trans ?_ g4
    unfold f_X8_holds_l5
    dsimp only
    rw [ldI_n (by omega) (by omega), h34, le_f hk (by omega), show ∀ y z : Option Int32, (if (40 : Int32) ≤ nI k then y else z) = z from fun y z => le_f (b := k) (a := 40) (by omega) (by omega), ldA_n (by omega) (by omega), show 35 + 1 + r = 36 + r by omega, ldI_n (by omega) (by omega), jn_e]
    have hK : f_X8_holds_j116 (x, nI k) K = fun y => K (y, nI (k + 1)) := by
      funext y
      unfold f_X8_holds_j116
      dsimp only
      rw [lt_e, nI_1]
    rw [hK]
    unfold f_X8_holds_j113
    rfl
  · rintro ⟨x, q⟩ ⟨h0, st, h1, h2, h3⟩ K
    obtain rfl : q = nI S.length := h0
    dsimp only at h1
    rw [List.drop_length] at h3
    unfold runP at h3
    obtain rfl : st = [b] := Option.some.inj h3
    unfold f_X8_holds_l5
    dsimp only
    rw [ldI_n (by omega) (by omega), h34, le_t (Nat.le_refl _) (by omega)]
    exact rep_top h1
