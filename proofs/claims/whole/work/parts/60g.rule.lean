/-! ===== the reading depends on the text's own bytes alone ===== -/
theorem sNum_c {t t' : Nat → Int32} {L : Nat} (h : ∀ p, tx t L p = tx t' L p) : ∀ k p v, sNum t L k p v = sNum t' L k p v
  | 0, p, v => rfl
  | k + 1, p, v => by
    unfold sNum
    rw [h p, sNum_c h k]
theorem sCmp2_c {t t' : Nat → Int32} {L : Nat} (h : ∀ p, tx t L p = tx t' L p) (f w : Int32) (p : Nat) : sCmp2 t L f w p = sCmp2 t' L f w p := by
  unfold sCmp2
  rw [h p, h (p + 1), sNum_c h]
theorem sCmp_c {t t' : Nat → Int32} {L : Nat} (h : ∀ p, tx t L p = tx t' L p) (p : Nat) : sCmp t L p = sCmp t' L p := by
  unfold sCmp
  rw [h p, h (p + 1), sCmp2_c h, sCmp2_c h]
theorem sLoop_c {t t' : Nat → Int32} {L : Nat} (h : ∀ p, tx t L p = tx t' L p) {op code : Int32} {g : Nat → Nat × Option (List Int32)} : ∀ k p acc, sLoop t L op code g k p acc = sLoop t' L op code g k p acc
  | 0, p, acc => rfl
  | k + 1, p, acc => by
    unfold sLoop
    rw [h p]
    congr 1
    congr 1
    funext q s
    exact sLoop_c h k q _
theorem sT_c {t t' : Nat → Int32} {L : Nat} (h : ∀ p, tx t L p = tx t' L p) : ∀ n kd d, sT t L n kd d = sT t' L n kd d
  | 0, kd, d => by funext p; cases kd <;> rfl
  | n + 1, 0, d => by
    funext p
    unfold sT sSeq
    rw [sT_c h n 1 d]
    congr 1
    funext q s
    exact sLoop_c h _ _ _
  | n + 1, 1, d => by
    funext p
    unfold sT sSeq
    rw [sT_c h n 2 d]
    congr 1
    funext q s
    exact sLoop_c h _ _ _
  | n + 1, kd + 2, d => by
    funext p
    unfold sT
    rw [h p, sT_c h n 2 (d + 1), sT_c h n 0 (d + 1), sCmp_c h]
    simp only [h]
theorem c_ruleadd {σ : Hp} {M s p : Nat} {P : Prop} [Decidable P] (h2 : σ.1 32 2 = nI M) (hM : M < 16) (h3 : σ.1 32 3 = nI s) (h4 : σ.1 32 4 = nI p) (hs : s < 65536) (hp : p < 65536) (hf : σ.1 29 4 = if P then 1 else 0) : ∃ σ', f_X8_add σ = some (nI M, σ') ∧ (∀ a, a ≠ 32 → a ≠ 33 → a ≠ 34 → a ≠ 36 + M → σ'.1 a = σ.1 a) ∧ σ'.1 32 2 = nI (M + 1) ∧ σ'.1 32 3 = nI (s ||| 2 ^ M) ∧ σ'.1 32 4 = nI (p ||| (if P then 2 ^ M else 0)) ∧ σ'.1 33 = upd (σ.1 33) M (σ.1 29 5) ∧ σ'.1 34 = upd (σ.1 34) M (σ.1 29 7) ∧ ∀ k, k < 40 → σ'.1 (36 + M) k = σ.1 31 k := by
  have hM2 := two16 hM
  obtain ⟨ρ, hρ⟩ : ∃ ρ, ρ = sR (sI (sI σ 33 M (σ.1 29 5)) 34 M (σ.1 29 7)) (36 + M) (va_cpy (σ.1 31) (σ.1 (36 + M)) 0 0 40) := ⟨_, rfl⟩
  have ρat : ∀ a, a ≠ 36 + M → ρ.1 a = (sI (sI σ 33 M (σ.1 29 5)) 34 M (σ.1 29 7)).1 a := fun a ha => by rw [hρ, sR_1, if_neg ha]
  have ρ32 : ρ.1 32 = σ.1 32 := ρat 32 (by omega)
  have ρ29 : ρ.1 29 = σ.1 29 := ρat 29 (by omega)
  have ρ36 : ρ.1 (36 + M) = va_cpy (σ.1 31) (σ.1 (36 + M)) 0 0 40 := by rw [hρ, sR_1, if_pos rfl]
  have hcp : ∀ f : Hp → Option (Int32 × Hp), cpI (sI (sI σ 33 M (σ.1 29 5)) 34 M (σ.1 29 7)) 31 40 (36 + M) 40 0 0 40 f = f ρ := fun f => by
    have e : (sI (sI σ 33 M (σ.1 29 5)) 34 M (σ.1 29 7)).1 (36 + M) = σ.1 (36 + M) := by rw [sI_1, if_neg (by omega), sI_1, if_neg (by omega)]
    unfold cpI
    rw [if_neg (by decide), e, hρ]
    rfl
  have hb1 : nI s ||| ((1 : Int32) <<< (nI M &&& 31)) = nI (s ||| 2 ^ M) := by rw [shl16 M hM, nI_or (by omega) (by omega)]
  have hb2 : (if (if P then (1 : Int32) else 0) = 0 then nI p ||| 0 else nI p ||| ((1 : Int32) <<< (nI M &&& 31))) = nI (p ||| (if P then 2 ^ M else 0)) := by
    by_cases e : P
    · rw [if_pos e, if_pos e, if_neg (by decide), shl16 M hM, nI_or (by omega) (by omega)]
    · rw [if_neg e, if_neg e, if_pos rfl, Nat.or_zero, show (0 : Int32) = nI 0 from rfl, nI_or (by omega) (by omega), Nat.or_zero]
  have hj : ∀ t : Int32, f_X8_add_j95 (sI ρ 32 3 (nI (s ||| 2 ^ M))) t = some (nI M, sI (sI (sI ρ 32 3 (nI (s ||| 2 ^ M))) 32 4 (nI p ||| t)) 32 2 (nI (M + 1))) := fun t => by
    unfold f_X8_add_j95
    rw [lt_e, lt_e, show (sI ρ 32 3 (nI (s ||| 2 ^ M))).1 32 4 = ρ.1 32 4 from rfl, ρ32, h4, show (sI (sI ρ 32 3 (nI (s ||| 2 ^ M))) 32 4 (nI p ||| t)).1 32 2 = ρ.1 32 2 from rfl, ρ32, h2, nI_1]
  refine ⟨sI (sI (sI ρ 32 3 (nI (s ||| 2 ^ M))) 32 4 (nI (p ||| (if P then 2 ^ M else 0)))) 32 2 (nI (M + 1)), ?_, fun a h32 h33 h34 h36 => ?_, rfl, rfl, rfl, ?_, ?_, fun k hk => ?_⟩
  · unfold f_X8_add
    rw [h2, if_pos (show nI M < (16 : Int32) from (nI_ltI (b := 16) (by omega) (by omega)).2 hM), stI_n (by omega) (by omega), show (sI σ 33 M (σ.1 29 5)).1 32 2 = σ.1 32 2 from rfl, h2, show (sI σ 33 M (σ.1 29 5)).1 29 7 = σ.1 29 7 from rfl, stI_n (by omega) (by omega), show (sI (sI σ 33 M (σ.1 29 5)) 34 M (σ.1 29 7)).1 32 2 = σ.1 32 2 from rfl, h2, ldA_n (by omega) (by omega), show 35 + 1 + M = 36 + M by omega, hcp, ρ32, h3, h2, hb1, lt_e, jn_e, show (sI ρ 32 3 (nI (s ||| 2 ^ M))).1 29 4 = ρ.1 29 4 from rfl, ρ29, hf, show (sI ρ 32 3 (nI (s ||| 2 ^ M))).1 32 2 = ρ.1 32 2 from rfl, ρ32, h2, hj, hj, ← hb2]
    by_cases e : (if P then (1 : Int32) else 0) = 0
    · rw [if_pos e, if_pos e]
    · rw [if_neg e, if_neg e]
  · show (if a = 32 then _ else if a = 32 then _ else if a = 32 then _ else ρ.1 a) = _
    rw [if_neg h32, if_neg h32, if_neg h32, ρat a h36, sI_1, if_neg h34, sI_1, if_neg h33]
  · show ρ.1 33 = _
    rw [ρat 33 (by omega)]; rfl
  · show ρ.1 34 = _
    rw [ρat 34 (by omega)]; rfl
  · rw [sI_1, if_neg (by omega), sI_1, if_neg (by omega), sI_1, if_neg (by omega), ρ36, pk_cpy_in (by omega) (by omega), Nat.sub_zero, Nat.zero_add]
theorem m_ruleadd {τ : Hp} {M L : Nat} (h38 : τ.1 86 38 = nI M) (hM : M < 16) (hL : L ≤ 40) : ∃ τ', lp (f_X12_rule_l45 (nI L) (f_X12_rule_j76 (nI L))) FU ((0 : Int32), τ) = some (nI M, τ') ∧ (∀ a, a ≠ 86 → a ≠ 116 → a ≠ 117 → a ≠ 119 → τ'.1 a = τ.1 a) ∧ (∀ j, j ≠ 38 → τ'.1 86 j = τ.1 86 j) ∧ τ'.1 86 38 = nI (M + 1) ∧ τ'.1 117 = upd (τ.1 117) M (nI L) ∧ τ'.1 119 = upd (τ.1 119) M 0 ∧ ∀ j, τ'.1 116 j = if 40 * M ≤ j ∧ j < 40 * M + L then τ.1 115 (j - 40 * M) else τ.1 116 j := by
  refine lp_h (Q := fun y => ∃ τ' : Hp, y = some (nI M, τ') ∧ (∀ a, a ≠ 86 → a ≠ 116 → a ≠ 117 → a ≠ 119 → τ'.1 a = τ.1 a) ∧ (∀ j, j ≠ 38 → τ'.1 86 j = τ.1 86 j) ∧ τ'.1 86 38 = nI (M + 1) ∧ τ'.1 117 = upd (τ.1 117) M (nI L) ∧ τ'.1 119 = upd (τ.1 119) M 0 ∧ ∀ j, τ'.1 116 j = if 40 * M ≤ j ∧ j < 40 * M + L then τ.1 115 (j - 40 * M) else τ.1 116 j) L (fun i ρ => (∀ a, a ≠ 116 → ρ.1 a = τ.1 a) ∧ ∀ j, ρ.1 116 j = if 40 * M ≤ j ∧ j < 40 * M + i then τ.1 115 (j - 40 * M) else τ.1 116 j) ?_ ?_ (by omega) ?_
  · rintro i ρ hi ⟨r1, r2⟩ K
    refine ⟨sI ρ 116 (40 * M + i) (τ.1 115 i), ⟨fun a ha => by rw [sI_1, if_neg ha]; exact r1 a ha, fun j => ?_⟩, ?_⟩
    · show upd (ρ.1 116) (40 * M + i) (τ.1 115 i) j = _
      rw [upd_at]
      by_cases e : j = 40 * M + i
      · rw [if_pos e, if_pos (by omega), e, show 40 * M + i - 40 * M = i by omega]
      · rw [if_neg e, r2]
        by_cases e2 : 40 * M ≤ j ∧ j < 40 * M + i
        · rw [if_pos e2, if_pos (by omega)]
        · rw [if_neg e2, if_neg (by omega)]
    · unfold f_X12_rule_l45
      dsimp only
      rw [le_f hi (by omega), ldI_n (by omega) (by omega), r1 115 (by omega), r1 86 (by omega), h38, show (40 : Int32) = nI 40 from rfl, pk_mul, nI_add, stI_n (by omega) (by omega), lt_e, nI_1]
  · rintro ρ ⟨r1, r2⟩ K
    refine ⟨sI (sI (sI ρ 117 M (nI L)) 119 M 0) 86 38 (nI (M + 1)), ?_, fun a h86 h116 h117 h119 => ?_, fun j hj => ?_, rfl, ?_, ?_, r2⟩
    · unfold f_X12_rule_l45 f_X12_rule_j76
      dsimp only
      have e38 : ρ.1 86 38 = nI M := by rw [r1 86 (by omega)]; exact h38
      rw [le_t (Nat.le_refl _) (by omega), e38, stI_n (by omega) (by omega), show (sI ρ 117 M (nI L)).1 86 38 = ρ.1 86 38 from rfl, e38, stZ_n (by omega) (by omega), lt_e, show (sI (sI ρ 117 M (nI L)) 119 M (vp_nar .boolean 0)).1 86 38 = ρ.1 86 38 from rfl, e38, nI_1, show ∀ (ξ : Hp) v, (sI ξ 86 38 v).1 86 38 = v from fun _ _ => rfl, nI_s1]
      rfl
    · rw [sI_1, if_neg h86, sI_1, if_neg h119, sI_1, if_neg h117]
      exact r1 a h116
    · show upd (ρ.1 86) 38 _ j = _
      rw [upd_at, if_neg hj, r1 86 (by omega)]
    · show upd (ρ.1 117) M (nI L) = _
      rw [r1 117 (by omega)]
    · show upd (ρ.1 119) M 0 = _
      rw [r1 119 (by omega)]
  · exact ⟨fun a _ => rfl, fun j => by rw [if_neg (by omega)]⟩
