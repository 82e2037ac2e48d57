/-! ===== what a call keeps ===== -/
def cC : List Nat := [1, 2, 3, 4, 5, 6, 7, 8, 9, 10, 11, 12, 25, 26, 27, 28, 30, 32, 33, 34, 36, 37, 38, 39, 40, 41, 42, 43, 44, 45, 46, 47, 48, 49, 50, 51, 60, 61, 62, 64, 68, 69, 73, 74, 75, 76, 77, 78, 79, 80, 81, 82, 85]
def cM : List Nat := [87, 88, 89, 90, 91, 92, 93, 94, 95, 96, 97, 98, 104, 105, 115, 116, 117, 119, 122, 123, 124, 125, 132, 135, 136, 137, 138, 139, 140, 141, 142, 143, 144, 145, 146, 148, 149, 150, 151]
def KCk (σ σ' : Hp) : Prop := (∀ a, a ∈ cC → σ'.1 a = σ.1 a) ∧ σ'.1 29 1 = σ.1 29 1 ∧ σ'.1 54 6 = σ.1 54 6
def KM (τ τ' : Hp) : Prop := (∀ a, a ∈ cM → τ'.1 a = τ.1 a) ∧ ∀ j, j ∈ [20, 21, 22, 37, 38, 50, 51, 75, 76, 80] → τ'.1 86 j = τ.1 86 j
theorem RR_parts {n : Nat} {σ τ σ' τ' : Hp} (h : RR n σ τ) (hc : KCk σ σ') (hm : KM τ τ') (hG : RG n (σ'.1 13 0) (τ'.1 86 23) (σ'.1 14) (σ'.1 15) (σ'.1 16) (σ'.1 17) (τ'.1 99) (τ'.1 100) (τ'.1 101) (τ'.1 102) (τ'.1 103) (σ.1 12) (σ.1 1 11)) (hA : RA (σ.1 25) (σ.1 26) (σ.1 27) (σ.1 28) (τ.1 86 50) (τ.1 86 51) (τ.1 122) (τ.1 123) (τ.1 124) (τ.1 125) (σ.1 1 10) (σ.1 1 15) (σ'.1 13 1) (τ.1 104) (τ.1 105) (τ'.1 106) (σ.1 1 6) (σ.1 1 11) (σ.1 12)) (hX : RX (σ'.1 14) (σ'.1 15) (σ'.1 16) (σ'.1 17) (σ'.1 20) (σ'.1 21) (σ'.1 22) (σ'.1 23)) : RR n σ' τ' := by
  obtain ⟨kc, k29, k54⟩ := hc
  obtain ⟨km, kf⟩ := hm
  obtain ⟨hF, hP, -, -, hT, hU, hg, hcc, hs, hd, ho, -⟩ := h
  refine ⟨?_, ?_, ?_, ?_, ?_, ?_, ?_, ?_, ?_, ?_, ?_, hX⟩
  · rw [kc 85 (by decide), km 87 (by decide)]; exact hF
  · rw [kc 1 (by decide), kc 2 (by decide), kc 3 (by decide), kc 4 (by decide), kc 5 (by decide), kc 6 (by decide), kc 7 (by decide), kc 8 (by decide), kc 9 (by decide), kc 10 (by decide), kc 11 (by decide), kc 12 (by decide), km 88 (by decide), km 89 (by decide), km 90 (by decide), km 91 (by decide), km 92 (by decide), km 93 (by decide), km 94 (by decide), km 95 (by decide), km 96 (by decide), km 97 (by decide), km 98 (by decide), kf 20 (by decide), kf 21 (by decide), kf 22 (by decide)]; exact hP
  · rw [kc 12 (by decide), kc 1 (by decide)]; exact hG
  · rw [kc 25 (by decide), kc 26 (by decide), kc 27 (by decide), kc 28 (by decide), kc 1 (by decide), kc 12 (by decide), km 122 (by decide), km 123 (by decide), km 124 (by decide), km 125 (by decide), km 104 (by decide), km 105 (by decide), kf 50 (by decide), kf 51 (by decide)]; exact hA
  · rw [k29, kc 30 (by decide), km 115 (by decide), kf 37 (by decide)]; exact hT
  · rw [kc 32 (by decide), kc 33 (by decide), kc 34 (by decide), kc 36 (by decide), kc 37 (by decide), kc 38 (by decide), kc 39 (by decide), kc 40 (by decide), kc 41 (by decide), kc 42 (by decide), kc 43 (by decide), kc 44 (by decide), kc 45 (by decide), kc 46 (by decide), kc 47 (by decide), kc 48 (by decide), kc 49 (by decide), kc 50 (by decide), kc 51 (by decide), km 116 (by decide), km 117 (by decide), km 119 (by decide), kf 38 (by decide)]; exact hU
  · rw [kc 68 (by decide), kc 69 (by decide), km 137 (by decide), km 138 (by decide)]; exact hg
  · rw [kc 73 (by decide), kc 74 (by decide), kc 75 (by decide), kc 76 (by decide), km 139 (by decide), km 140 (by decide), km 141 (by decide), km 142 (by decide)]; exact hcc
  · rw [kc 77 (by decide), kc 78 (by decide), kc 79 (by decide), kc 80 (by decide), kc 81 (by decide), kc 82 (by decide), km 143 (by decide), km 144 (by decide), km 145 (by decide), km 146 (by decide), km 148 (by decide), kf 75 (by decide), kf 76 (by decide)]; exact hs
  · rw [kc 64 (by decide), km 132 (by decide), km 135 (by decide), km 136 (by decide)]; exact hd
  · unfold Ro at ho ⊢; rw [k54, kc 60 (by decide), kc 61 (by decide), kc 62 (by decide), kc 1 (by decide), km 149 (by decide), km 150 (by decide), km 151 (by decide), kf 80 (by decide)]; exact ho
/-- nothing that counts has changed -/
theorem RR_keep {n : Nat} {σ τ σ' τ' : Hp} (h : RR n σ τ) (hc : KCk σ σ') (hm : KM τ τ') (hC : ∀ a, a ∈ [13, 14, 15, 16, 17, 20, 21, 22, 23] → σ'.1 a = σ.1 a) (hM : ∀ a, a ∈ [99, 100, 101, 102, 103, 106] → τ'.1 a = τ.1 a) (hk : τ'.1 86 23 = τ.1 86 23) : RR n σ' τ' := by
  refine RR_parts h hc hm ?_ ?_ ?_
  · rw [hk, hC 13 (by decide), hC 14 (by decide), hC 15 (by decide), hC 16 (by decide), hC 17 (by decide), hM 99 (by decide), hM 100 (by decide), hM 101 (by decide), hM 102 (by decide), hM 103 (by decide)]; exact h.2.2.1
  · rw [hC 13 (by decide), hM 106 (by decide)]; exact h.2.2.2.1
  · rw [hC 14 (by decide), hC 15 (by decide), hC 16 (by decide), hC 17 (by decide), hC 20 (by decide), hC 21 (by decide), hC 22 (by decide), hC 23 (by decide)]; exact h.2.2.2.2.2.2.2.2.2.2.2
theorem KC_fr {l : List Nat} {σ σ' : Hp} (hl : ∀ a, a ∈ cC ++ [29, 54] → a ∉ l) (h : fr l σ σ') : KCk σ σ' := ⟨fun a ha => h a (hl a (List.mem_append_left _ ha)), by rw [h 29 (hl 29 (by decide))], by rw [h 54 (hl 54 (by decide))]⟩
theorem KM_fr {l : List Nat} {τ τ' : Hp} (hl : ∀ a, a ∈ cM ++ [86] → a ∉ l) (h : fr l τ τ') : KM τ τ' := ⟨fun a ha => h a (hl a (List.mem_append_left _ ha)), fun j _ => by rw [h 86 (hl 86 (by decide))]⟩
theorem KM_t {τ τ' τ'' : Hp} (h : KM τ τ') (h' : KM τ' τ'') : KM τ τ'' := ⟨fun a ha => (h'.1 a ha).trans (h.1 a ha), fun j hj => (h'.2 j hj).trans (h.2 j hj)⟩
theorem KC_t {τ τ' τ'' : Hp} (h : KCk τ τ') (h' : KCk τ' τ'') : KCk τ τ'' := ⟨fun a ha => (h'.1 a ha).trans (h.1 a ha), h'.2.1.trans h.2.1, h'.2.2.trans h.2.2⟩
theorem KC_0 (σ : Hp) : KCk σ σ := ⟨fun _ _ => rfl, rfl, rfl⟩
theorem KM_0 (τ : Hp) : KM τ τ := ⟨fun _ _ => rfl, fun _ _ => rfl⟩
/-- the last of a tick: the model's clock -/
theorem KM_tick (τ : Hp) (v : Int32) : KM τ (sI τ 86 23 v) := by
  refine ⟨fun a ha => ?_, fun j hj => ?_⟩
  · rw [sI_1, if_neg (show ¬ a = 86 from fun e => by subst e; revert ha; decide)]
  · show upd (τ.1 86) 23 v j = _
    exact pk_un (fun e => by subst e; revert hj; decide)
