/-! ===== the pure heap: every cell of both objects by its number in the table LAY; int rows, long rows ===== -/
abbrev Hp : Type := (Nat → Nat → Int32) × (Nat → Nat → Int64)
def sR (σ : Hp) (k : Nat) (f : Nat → Int32) : Hp := (fun a => if a = k then f else σ.1 a, σ.2)
def sL (σ : Hp) (k : Nat) (f : Nat → Int64) : Hp := (σ.1, fun a => if a = k then f else σ.2 a)
def sI (σ : Hp) (k j : Nat) (v : Int32) : Hp := sR σ k (upd (σ.1 k) j v)
def sJ (σ : Hp) (k j : Nat) (v : Int64) : Hp := sL σ k (vp_updL (σ.2 k) j v)
section OPS
variable {α β ρ : Type}
def ldI (σ : Hp) (k n : Nat) (i : Int32) (f : Int32 → Option α) : Option α := if i < 0 ∨ n ≤ i.toNatClampNeg then none else f (σ.1 k i.toNatClampNeg)
def ldJ (σ : Hp) (k n : Nat) (i : Int32) (f : Int64 → Option α) : Option α := if i < 0 ∨ n ≤ i.toNatClampNeg then none else f (σ.2 k i.toNatClampNeg)
def ldA (k n : Nat) (i : Int32) (f : Nat → Option α) : Option α := if i < 0 ∨ n ≤ i.toNatClampNeg then none else f (k + 1 + i.toNatClampNeg)
def stI (σ : Hp) (k n : Nat) (i v : Int32) (f : Hp → Option α) : Option α := if i < 0 ∨ n ≤ i.toNatClampNeg then none else f (sI σ k i.toNatClampNeg v)
def stZ (σ : Hp) (k n : Nat) (i v : Int32) (f : Hp → Option α) : Option α := if i < 0 ∨ n ≤ i.toNatClampNeg then none else f (sI σ k i.toNatClampNeg (vp_nar .boolean v))
def stJ (σ : Hp) (k n : Nat) (i : Int32) (v : Int64) (f : Hp → Option α) : Option α := if i < 0 ∨ n ≤ i.toNatClampNeg then none else f (sJ σ k i.toNatClampNeg v)
def lt (e : β) (f : β → Option α) : Option α := f e
def jn (A : β → Option α) (F : (β → Option α) → Option α) : Option α := F A
def lp (F : (β → Option α) → β → Option α) : Nat → β → Option α
  | 0, _ => none
  | n + 1, s => F (lp F n) s
def cl (x : Option (ρ × Hp)) (f : ρ → Hp → Option α) : Option α := x.bind fun t => f t.1 t.2
def cr (x : Option ρ) (f : ρ → Option α) : Option α := x.bind f
def dvI (y : Int32) (x : Option α) : Option α := if y = 0 then none else x
def dvJ (y : Int64) (x : Option α) : Option α := if y = 0 then none else x
def ckZ (v : Int32) (x : Option α) : Option α := if v = 0 ∨ v = 1 then x else none
def cpI (σ : Hp) (ks ns kd nd : Nat) (sp dp n : Int32) (f : Hp → Option α) : Option α :=
  if sp < 0 ∨ dp < 0 ∨ n < 0 ∨ ns < sp.toNatClampNeg + n.toNatClampNeg ∨ nd < dp.toNatClampNeg + n.toNatClampNeg then none else f (sR σ kd (va_cpy (σ.1 ks) (σ.1 kd) sp.toNatClampNeg dp.toNatClampNeg n.toNatClampNeg))
/-- the longest that any loop here may run -/
def FU : Nat := 1099511627776
end OPS
/-! ===== the table of cells, and the world that it spells ===== -/
abbrev LE : Type := (Nat × List (Option Nat)) ⊕ (Nat × Nat)
abbrev GT : Type := va_G × (Nat → Nat) × (Nat → ClassId)
def rf (G : GT) (k : Nat) : Value := .ref (G.2.1 k)
def fsV (G : GT) (f : Nat → Int32) : Nat → List (Option Nat) → List Value
  | _, [] => []
  | j, none :: r => .int (f j) :: fsV G f (j + 1) r
  | j, some q :: r => rf G q :: fsV G f (j + 1) r
def arV (G : GT) (σ : Hp) (k : Nat) : Nat → ((Nat → Int32) ⊕ (Nat → Int64) ⊕ (Nat → UInt32) ⊕ (Nat → UInt64) ⊕ (Nat → Option Nat))
  | 0 => .inl (σ.1 k)
  | 1 => .inl (σ.1 k)
  | 2 => .inr (.inl (σ.2 k))
  | _ => .inr (.inr (.inr (.inr (fun j => some (G.2.1 (k + 1 + j))))))
def ceG (G : GT) (σ : Hp) (k : Nat) : LE → va_E
  | .inl (ci, fs) => .inr (ci, fsV G (σ.1 k) 0 fs)
  | .inr (t, n) => .inl (G.2.2 t, n, arV G σ k t)
def wsG (G : GT) (σ : Hp) : va_W := LAY.mapIdx (fun k e => (G.2.1 k, ceG G σ k e))
abbrev tysG (G : GT) : List (ClassId × FieldType) := [(G.2.2 0, .int), (G.2.2 1, .boolean), (G.2.2 2, .long), (G.2.2 3, .array .int)]
theorem ws_get (G : GT) (σ : Hp) {k : Nat} {e : LE} (h : LAY[k]? = some e) : (wsG G σ)[k]? = some (G.2.1 k, ceG G σ k e) := by
  simp [wsG, List.getElem?_mapIdx, h]
theorem fsV_get (G : GT) (f : Nat → Int32) : ∀ (fs : List (Option Nat)) (i j : Nat) (o : Option Nat), fs[j]? = some o → (fsV G f i fs)[j]? = some (match o with | none => .int (f (i + j)) | some q => rf G q)
  | [], i, j, o, h => by simp at h
  | none :: r, i, 0, o, h => by simp at h; subst h; rfl
  | some q :: r, i, 0, o, h => by simp at h; subst h; rfl
  | none :: r, i, j + 1, o, h => by
    have := fsV_get G f r (i + 1) j o (by simpa using h)
    simpa [fsV, Nat.add_assoc, Nat.add_comm 1 j] using this
  | some q :: r, i, j + 1, o, h => by
    have := fsV_get G f r (i + 1) j o (by simpa using h)
    simpa [fsV, Nat.add_assoc, Nat.add_comm 1 j] using this
theorem fsV_len (G : GT) (f : Nat → Int32) : ∀ (fs : List (Option Nat)) (i : Nat), (fsV G f i fs).length = fs.length
  | [], i => rfl
  | none :: r, i => by simp [fsV, fsV_len G f r]
  | some q :: r, i => by simp [fsV, fsV_len G f r]
theorem fsV_same (G : GT) {f g : Nat → Int32} : ∀ (fs : List (Option Nat)) (i : Nat), (∀ j, i ≤ j → f j = g j) → fsV G f i fs = fsV G g i fs
  | [], i, h => rfl
  | none :: r, i, h => by
    simp only [fsV]
    rw [fsV_same G r (i + 1) (fun j hj => h j (by omega)), h i (Nat.le_refl i)]
  | some q :: r, i, h => by
    simp only [fsV]
    rw [fsV_same G r (i + 1) (fun j hj => h j (by omega))]
theorem fsV_set (G : GT) (f : Nat → Int32) (v : Int32) : ∀ (fs : List (Option Nat)) (i j : Nat), fs[j]? = some none → (fsV G f i fs).set j (.int v) = fsV G (upd f (i + j) v) i fs
  | [], i, j, h => by simp at h
  | none :: r, i, 0, h => by
    simp only [fsV, List.set_cons_zero]
    rw [fsV_same G (g := upd f (i + 0) v) r (i + 1) (fun j hj => by simp [upd, show j ≠ i by omega])]
    simp [upd]
  | some q :: r, i, 0, h => by simp at h
  | none :: r, i, j + 1, h => by
    have := fsV_set G f v r (i + 1) j (by simpa using h)
    simp only [fsV, List.set_cons_succ]
    rw [this, show i + 1 + j = i + (j + 1) by omega]
    simp [upd, show ¬ i = i + (j + 1) by omega]
  | some q :: r, i, j + 1, h => by
    have := fsV_set G f v r (i + 1) j (by simpa using h)
    simp only [fsV, List.set_cons_succ]
    rw [this, show i + 1 + j = i + (j + 1) by omega]
theorem ws_set (G : GT) {σ σ' : Hp} {k : Nat} {E : va_E} {e : LE} (h : LAY[k]? = some e) (he : ceG G σ' k e = E) (h1 : ∀ a, a ≠ k → σ'.1 a = σ.1 a) (h2 : ∀ a, a ≠ k → σ'.2 a = σ.2 a) : (wsG G σ).set k (G.2.1 k, E) = wsG G σ' := by
  apply List.ext_getElem?
  intro i
  rw [List.getElem?_set]
  have hk : k < (wsG G σ).length := (List.getElem?_eq_some_iff.mp (ws_get G σ h)).1
  by_cases hi : k = i
  · subst hi
    rw [if_pos rfl, if_pos hk, ws_get G σ' h, he]
  · rw [if_neg hi]
    simp only [wsG, List.getElem?_mapIdx]
    cases hq : LAY[i]? with
    | none => rfl
    | some e' =>
      simp only [Option.map_some]
      congr 2
      have a1 := h1 i (fun q => hi q.symm)
      have a2 := h2 i (fun q => hi q.symm)
      obtain ⟨ci, fs⟩ | ⟨t, n⟩ := e'
      · simp only [ceG, a1]
      · simp only [ceG]
        congr 3
        unfold arV
        split <;> simp only [a1, a2]
/-- one side of the world by σ, the other by τ: b says which -/
def eb (b : Bool) (τ σ : Hp) : Hp := (fun k => if decide (k < NC) = b then σ.1 k else τ.1 k, fun k => if decide (k < NC) = b then σ.2 k else τ.2 k)
theorem eb_1 {b : Bool} {τ σ : Hp} {k : Nat} (h : decide (k < NC) = b) : (eb b τ σ).1 k = σ.1 k := if_pos h
theorem eb_2 {b : Bool} {τ σ : Hp} {k : Nat} (h : decide (k < NC) = b) : (eb b τ σ).2 k = σ.2 k := if_pos h
theorem eb_sR {b : Bool} {τ σ : Hp} {k : Nat} (h : decide (k < NC) = b) (f : Nat → Int32) : eb b τ (sR σ k f) = sR (eb b τ σ) k f := by
  refine Prod.ext (funext fun a => ?_) rfl
  show (if decide (a < NC) = b then (if a = k then f else σ.1 a) else τ.1 a) = if a = k then f else (if decide (a < NC) = b then σ.1 a else τ.1 a)
  by_cases ha : a = k
  · subst ha; simp [h]
  · simp [ha]
theorem eb_sL {b : Bool} {τ σ : Hp} {k : Nat} (h : decide (k < NC) = b) (f : Nat → Int64) : eb b τ (sL σ k f) = sL (eb b τ σ) k f := by
  refine Prod.ext rfl (funext fun a => ?_)
  show (if decide (a < NC) = b then (if a = k then f else σ.2 a) else τ.2 a) = if a = k then f else (if decide (a < NC) = b then σ.2 a else τ.2 a)
  by_cases ha : a = k
  · subst ha; simp [h]
  · simp [ha]
theorem eb_sw (b : Bool) (τ σ : Hp) : eb b τ σ = eb (!b) σ τ := by
  refine Prod.ext (funext fun a => ?_) (funext fun a => ?_) <;> (simp only [eb]; cases b <;> cases decide (a < NC) <;> rfl)
/-! ===== locals as a list ===== -/
def lvL (ls : Array Slot) (n : Nat) (L : List (Option Value)) : Prop := ls.size = n ∧ L.length = n ∧ lv_wf ls ∧ ∀ (i : Nat) (v : Value), L[i]? = some (some v) → ls[i]? = some (.val v)
def clr : Option Value → Option Value
  | some v => if v.category = 2 then none else some v
  | none => none
def st1 : List (Option Value) → Nat → Value → List (Option Value)
  | [], _, _ => []
  | _ :: L, 0, v => some v :: L
  | o :: L, 1, v => clr o :: st1 L 0 v
  | o :: L, n + 2, v => o :: st1 L (n + 1) v
def st2 : List (Option Value) → Nat → Value → List (Option Value)
  | [], _, _ => []
  | [_], 0, v => [some v]
  | _ :: _ :: L, 0, v => some v :: none :: L
  | o :: L, 1, v => clr o :: st2 L 0 v
  | o :: L, n + 2, v => o :: st2 L (n + 1) v
theorem clr_s {o : Option Value} {w : Value} (h : clr o = some w) : o = some w ∧ w.category ≠ 2 := by
  cases o with
  | none => cases h
  | some v =>
    by_cases hc : v.category = 2
    · simp [clr, hc] at h
    · simp [clr, hc] at h
      subst h
      exact ⟨rfl, hc⟩
theorem st1_len : ∀ (L : List (Option Value)) (i : Nat) (v : Value), (st1 L i v).length = L.length
  | [], _, _ => rfl
  | _ :: _, 0, _ => rfl
  | _ :: L, 1, v => by simp [st1, st1_len L 0 v]
  | _ :: L, n + 2, v => by simp [st1, st1_len L (n + 1) v]
theorem st2_len : ∀ (L : List (Option Value)) (i : Nat) (v : Value), (st2 L i v).length = L.length
  | [], _, _ => rfl
  | [_], 0, _ => rfl
  | _ :: _ :: _, 0, _ => rfl
  | [_], 1, v => by simp [st2]
  | _ :: b :: L, 1, v => by simp [st2, st2_len (b :: L) 0 v]
  | [_], n + 2, v => by simp [st2]
  | _ :: b :: L, n + 2, v => by simp [st2, st2_len (b :: L) (n + 1) v]
theorem st1_get : ∀ (L : List (Option Value)) (i : Nat) (x : Value) (j : Nat) (v : Value), (st1 L i x)[j]? = some (some v) → (j = i ∧ v = x) ∨ (j ≠ i ∧ L[j]? = some (some v) ∧ ¬ (j + 1 = i ∧ v.category = 2))
  | [], i, x, j, v, h => by simp [st1] at h
  | o :: L, 0, x, 0, v, h => by simp [st1] at h; exact Or.inl ⟨rfl, h.symm⟩
  | o :: L, 0, x, j + 1, v, h => by simp [st1] at h; exact Or.inr ⟨by omega, by simpa using h, by omega⟩
  | o :: L, 1, x, 0, v, h => by
    simp [st1] at h
    obtain ⟨a, b⟩ := clr_s h
    exact Or.inr ⟨by omega, by simp [a], fun q => b q.2⟩
  | o :: L, 1, x, j + 1, v, h => by
    simp [st1] at h
    rcases st1_get L 0 x j v h with ⟨a, b⟩ | ⟨a, b, c⟩
    · exact Or.inl ⟨by omega, b⟩
    · exact Or.inr ⟨by omega, by simpa using b, by omega⟩
  | o :: L, n + 2, x, 0, v, h => by
    simp [st1] at h
    exact Or.inr ⟨by omega, by simp [h], by omega⟩
  | o :: L, n + 2, x, j + 1, v, h => by
    simp [st1] at h
    rcases st1_get L (n + 1) x j v h with ⟨a, b⟩ | ⟨a, b, c⟩
    · exact Or.inl ⟨by omega, b⟩
    · exact Or.inr ⟨by omega, by simpa using b, fun q => c ⟨by omega, q.2⟩⟩
theorem st2_get : ∀ (L : List (Option Value)) (i : Nat) (x : Value) (j : Nat) (v : Value), i + 1 < L.length → (st2 L i x)[j]? = some (some v) → (j = i ∧ v = x) ∨ (j ≠ i ∧ j ≠ i + 1 ∧ L[j]? = some (some v) ∧ ¬ (j + 1 = i ∧ v.category = 2))
  | [], i, x, j, v, hl, h => by simp [st2] at h
  | [o], 0, x, j, v, hl, h => by simp at hl
  | o :: o' :: L, 0, x, 0, v, hl, h => by simp [st2] at h; exact Or.inl ⟨rfl, h.symm⟩
  | o :: o' :: L, 0, x, 1, v, hl, h => by simp [st2] at h
  | o :: o' :: L, 0, x, j + 2, v, hl, h => by simp [st2] at h; exact Or.inr ⟨by omega, by omega, by simpa using h, by omega⟩
  | [o], 1, x, 0, v, hl, h => by simp at hl
  | o :: o' :: L, 1, x, 0, v, hl, h => by
    simp [st2] at h
    obtain ⟨a, b⟩ := clr_s h
    exact Or.inr ⟨by omega, by omega, by simp [a], fun q => b q.2⟩
  | [o], 1, x, j + 1, v, hl, h => by simp at hl
  | o :: o' :: L, 1, x, j + 1, v, hl, h => by
    simp [st2] at h
    rcases st2_get (o' :: L) 0 x j v (by simp at hl ⊢; omega) h with ⟨a, b⟩ | ⟨a, a', b, c⟩
    · exact Or.inl ⟨by omega, b⟩
    · exact Or.inr ⟨by omega, by omega, by simpa using b, by omega⟩
  | [o], n + 2, x, j, v, hl, h => by simp at hl
  | o :: o' :: L, n + 2, x, 0, v, hl, h => by
    simp [st2] at h
    exact Or.inr ⟨by omega, by omega, by simp [h], by omega⟩
  | o :: o' :: L, n + 2, x, j + 1, v, hl, h => by
    simp [st2] at h
    rcases st2_get (o' :: L) (n + 1) x j v (by simp at hl ⊢; omega) h with ⟨a, b⟩ | ⟨a, a', b, c⟩
    · exact Or.inl ⟨by omega, b⟩
    · exact Or.inr ⟨by omega, by omega, by simpa using b, fun q => c ⟨by omega, q.2⟩⟩
def prs (L : List (Option Value)) : List (Nat × Value) := (List.range L.length).filterMap fun i => match L[i]? with | some (some v) => some (i, v) | _ => none
theorem prs_in {L : List (Option Value)} {q : Nat × Value} : q ∈ prs L ↔ L[q.1]? = some (some q.2) := by
  obtain ⟨i, v⟩ := q
  unfold prs
  simp only [List.mem_filterMap, List.mem_range]
  constructor
  · rintro ⟨a, ha, h⟩
    split at h
    · rename_i w hw
      cases h; exact hw
    · cases h
  · intro h
    refine ⟨i, (List.getElem?_eq_some_iff.mp h).1, ?_⟩
    rw [h]
theorem lvL_has {ls : Array Slot} {n : Nat} {L : List (Option Value)} (h : lvL ls n L) : lv_has ls n (prs L) := ⟨h.1, h.2.2.1, fun q hq => h.2.2.2 _ _ (prs_in.mp hq)⟩
theorem lvL_st1 {ls : Array Slot} {n i : Nat} {x : Value} {L : List (Option Value)} (hn : L.length = n) (h : lv_has ls n ((i, x) :: (prs L).filter (fun q => !(q.1 == i) && !(q.1 + 1 == i && q.2.category == 2)))) : lvL ls n (st1 L i x) := by
  refine ⟨h.1, by rw [st1_len, hn], h.2.1, fun j v hj => ?_⟩
  rcases st1_get L i x j v hj with ⟨rfl, rfl⟩ | ⟨a, b, c⟩
  · exact h.2.2 (j, v) List.mem_cons_self
  · refine h.2.2 (j, v) (List.mem_cons_of_mem _ (List.mem_filter.mpr ⟨prs_in.mpr b, ?_⟩))
    simp only [Bool.and_eq_true, Bool.not_eq_true', beq_eq_false_iff_ne, ne_eq, Bool.and_eq_false_iff]
    refine ⟨a, ?_⟩
    by_cases q : j + 1 = i
    · exact Or.inr fun w => c ⟨q, w⟩
    · exact Or.inl q
theorem lvL_st2 {ls : Array Slot} {n i : Nat} {x : Value} {L : List (Option Value)} (hn : L.length = n) (hi : i + 1 < n) (h : lv_has ls n ((i, x) :: (prs L).filter (fun q => !(q.1 == i) && (!(q.1 == i + 1) && !(q.1 + 1 == i && q.2.category == 2))))) : lvL ls n (st2 L i x) := by
  refine ⟨h.1, by rw [st2_len, hn], h.2.1, fun j v hj => ?_⟩
  rcases st2_get L i x j v (by omega) hj with ⟨rfl, rfl⟩ | ⟨a, a', b, c⟩
  · exact h.2.2 (j, v) List.mem_cons_self
  · refine h.2.2 (j, v) (List.mem_cons_of_mem _ (List.mem_filter.mpr ⟨prs_in.mpr b, ?_⟩))
    simp only [Bool.and_eq_true, Bool.not_eq_true', beq_eq_false_iff_ne, ne_eq, Bool.and_eq_false_iff]
    refine ⟨a, a', ?_⟩
    by_cases q : j + 1 = i
    · exact Or.inr fun w => c ⟨q, w⟩
    · exact Or.inl q
/-- fewer locals are known -/
def LL : List (Option Value) → List (Option Value) → Prop
  | [], [] => True
  | none :: a, _ :: b => LL a b
  | some v :: a, some w :: b => v = w ∧ LL a b
  | _, _ => False
theorem ll_0 : LL [] [] := trivial
theorem ll_n {a b : List (Option Value)} {o : Option Value} (h : LL a b) : LL (none :: a) (o :: b) := h
theorem ll_s {a b : List (Option Value)} {v w : Value} (e : v = w) (h : LL a b) : LL (some v :: a) (some w :: b) := ⟨e, h⟩
theorem ll_get : ∀ {a b : List (Option Value)}, LL a b → ∀ (i : Nat) (v : Value), a[i]? = some (some v) → b[i]? = some (some v)
  | [], [], _, i, v, h => by simp at h
  | none :: a, o :: b, hL, 0, v, h => by simp at h
  | none :: a, o :: b, hL, i + 1, v, h => by simpa using ll_get (a := a) (b := b) hL i v (by simpa using h)
  | some u :: a, some w :: b, hL, 0, v, h => by simp at h; simp [← hL.1, h]
  | some u :: a, some w :: b, hL, i + 1, v, h => by simpa using ll_get (a := a) (b := b) hL.2 i v (by simpa using h)
  | [], _ :: _, hL, i, v, h => hL.elim
  | none :: _, [], hL, i, v, h => hL.elim
  | some _ :: _, [], hL, i, v, h => hL.elim
  | some _ :: _, none :: _, hL, i, v, h => hL.elim
theorem ll_len : ∀ {a b : List (Option Value)}, LL a b → a.length = b.length
  | [], [], _ => rfl
  | none :: a, o :: b, hL => by simp [ll_len (a := a) (b := b) hL]
  | some u :: a, some w :: b, hL => by simp [ll_len (a := a) (b := b) hL.2]
  | [], _ :: _, hL => hL.elim
  | none :: _, [], hL => hL.elim
  | some _ :: _, [], hL => hL.elim
  | some _ :: _, none :: _, hL => hL.elim
/-! ===== the judgement: if the pure program x comes to the method's answer, the machine comes to its end from here ===== -/
abbrev KF : Type := Program × Launch × Env × Room × State × MethodId × Array Value × List Frame × Method × Code
abbrev KT (Ψ α : Type) : Type := KF × (State → Prop) × (Nat → Prop) × Heap × (Nat × Nat × Nat) × (Ψ → Hp) × α
def VV {Ψ α : Type} (G : GT) (κ : KT Ψ α) (x : Option α) (σ : Ψ) (pc : Nat) (L : List (Option Value)) (st : List Value) : Prop :=
  match κ with
  | ((p, l, e, R, s, m, args, below, meth, c), Q, A, H0, (nL, nc, ns), emb, r0) =>
    x = some r0 → ∀ (H : Heap) (locs : List Loc) (ls : Array Slot), lvL ls nL L → va_P G.1 classes (wsG G (emb σ)) H → va_D A (wsG G (emb σ)) → va_S A H0 H locs → W p l e R s m args below meth c H locs nc ns Q (F0 m pc ls st)
def KO {Ψ α : Type} (G : GT) (κ : KT Ψ α) (cc : ByteArray) (own : String) (lv : Nat) : Prop :=
  match κ with
  | ((p, l, e, R, s, m, args, below, meth, c), Q, A, H0, (nL, nc, ns), emb, r0) =>
    p.tables.exec = Jvm.exec ∧ c.code = cc ∧ c.maxLocals = nL ∧ s.vm.findClass own = some m.cls ∧ (∀ w ∈ WT, w.before args s = true) ∧ va_K G.1 classes (tysG G) s ∧ (∀ q : Nat, H0.size ≤ q → A q) ∧ (nc ≤ R.cells ∧ ns ≤ R.slots) ∧ (lv + 1 ≤ R.frames ∧ 40 * (lv + 1) ≤ R.locals) ∧ va_Nw nestW s
def KE {α : Type} (b : Bool) (κ : KT Hp α) : Prop := ∃ τ : Hp, κ.2.2.2.2.2.1 = eb b τ
section VVR
variable {Ψ α β ρ : Type} {G : GT} {cc : ByteArray} {own : String} {lv pc : Nat} {L L' : List (Option Value)} {st : List Value}
theorem vv_iconst {κ : KT Ψ α} {x : Option α} {σ : Ψ} {n : Int} {v : Int32} (q : Nat) (hk : KO G κ cc own lv) (d : decode cc pc = .ok (.iconst n, 1)) (hq : pc + 1 = q) (hv : Int32.ofInt n = v) (k : VV G κ x σ q L (.int v :: st)) : VV G κ x σ pc L (st) := by
  obtain ⟨⟨p, l, e, R, s, m, args, below, meth, c⟩, Q, A, H0, ⟨nL, nc, ns⟩, emb, r0⟩ := κ
  obtain ⟨hx, hb, hml, hown, hts, hK, hA, hcs, hR, hNw⟩ := hk
  subst hq
  exact fun hx0 H locs ls hl hP hD hS => lv_iconst hx hb d hv (k hx0 H locs ls hl hP hD hS)
theorem vv_bipush {κ : KT Ψ α} {x : Option α} {σ : Ψ} {n : Int} {v : Int32} (q : Nat) (hk : KO G κ cc own lv) (d : decode cc pc = .ok (.bipush n, 2)) (hq : pc + 2 = q) (hv : (Int8.ofInt n).toInt32 = v) (k : VV G κ x σ q L (.int v :: st)) : VV G κ x σ pc L (st) := by
  obtain ⟨⟨p, l, e, R, s, m, args, below, meth, c⟩, Q, A, H0, ⟨nL, nc, ns⟩, emb, r0⟩ := κ
  obtain ⟨hx, hb, hml, hown, hts, hK, hA, hcs, hR, hNw⟩ := hk
  subst hq
  exact fun hx0 H locs ls hl hP hD hS => lv_bipush hx hb d hv (k hx0 H locs ls hl hP hD hS)
theorem vv_sipush {κ : KT Ψ α} {x : Option α} {σ : Ψ} {n : Int} {v : Int32} (q : Nat) (hk : KO G κ cc own lv) (d : decode cc pc = .ok (.sipush n, 3)) (hq : pc + 3 = q) (hv : (Int16.ofInt n).toInt32 = v) (k : VV G κ x σ q L (.int v :: st)) : VV G κ x σ pc L (st) := by
  obtain ⟨⟨p, l, e, R, s, m, args, below, meth, c⟩, Q, A, H0, ⟨nL, nc, ns⟩, emb, r0⟩ := κ
  obtain ⟨hx, hb, hml, hown, hts, hK, hA, hcs, hR, hNw⟩ := hk
  subst hq
  exact fun hx0 H locs ls hl hP hD hS => lv_sipush hx hb d hv (k hx0 H locs ls hl hP hD hS)
theorem vv_lconst {κ : KT Ψ α} {x : Option α} {σ : Ψ} {n : Fin 2} {v : Int64} (q : Nat) (hk : KO G κ cc own lv) (d : decode cc pc = .ok (.lconst n, 1)) (hq : pc + 1 = q) (hv : Int64.ofNat (n : Nat) = v) (k : VV G κ x σ q L (.long v :: st)) : VV G κ x σ pc L (st) := by
  obtain ⟨⟨p, l, e, R, s, m, args, below, meth, c⟩, Q, A, H0, ⟨nL, nc, ns⟩, emb, r0⟩ := κ
  obtain ⟨hx, hb, hml, hown, hts, hK, hA, hcs, hR, hNw⟩ := hk
  subst hq
  exact fun hx0 H locs ls hl hP hD hS => lv_lconst hx hb d hv (k hx0 H locs ls hl hP hD hS)
theorem vv_ldc {κ : KT Ψ α} {x : Option α} {σ : Ψ} {ix : Nat} {v : Int32} (q : Nat) (hk : KO G κ cc own lv) (d : decode cc pc = .ok (.ldc ix, 2)) (hq : pc + 2 = q) (hw : Cond.constant own ix v ∈ WT) (k : VV G κ x σ q L (.int v :: st)) : VV G κ x σ pc L (st) := by
  obtain ⟨⟨p, l, e, R, s, m, args, below, meth, c⟩, Q, A, H0, ⟨nL, nc, ns⟩, emb, r0⟩ := κ
  obtain ⟨hx, hb, hml, hown, hts, hK, hA, hcs, hR, hNw⟩ := hk
  subst hq
  exact fun hx0 H locs ls hl hP hD hS => lv_ldc hx hb hown (hts _ hw) d (k hx0 H locs ls hl hP hD hS)
theorem vv_ldcw {κ : KT Ψ α} {x : Option α} {σ : Ψ} {ix : Nat} {v : Int32} (q : Nat) (hk : KO G κ cc own lv) (d : decode cc pc = .ok (.ldc_w ix, 3)) (hq : pc + 3 = q) (hw : Cond.constant own ix v ∈ WT) (k : VV G κ x σ q L (.int v :: st)) : VV G κ x σ pc L (st) := by
  obtain ⟨⟨p, l, e, R, s, m, args, below, meth, c⟩, Q, A, H0, ⟨nL, nc, ns⟩, emb, r0⟩ := κ
  obtain ⟨hx, hb, hml, hown, hts, hK, hA, hcs, hR, hNw⟩ := hk
  subst hq
  exact fun hx0 H locs ls hl hP hD hS => lv_ldcw hx hb hown (hts _ hw) d (k hx0 H locs ls hl hP hD hS)
theorem vv_ldc2 {κ : KT Ψ α} {x : Option α} {σ : Ψ} {ix : Nat} {v : Int64} (q : Nat) (hk : KO G κ cc own lv) (d : decode cc pc = .ok (.ldc2_w ix, 3)) (hq : pc + 3 = q) (hw : Cond.constantLong own ix v ∈ WT) (k : VV G κ x σ q L (.long v :: st)) : VV G κ x σ pc L (st) := by
  obtain ⟨⟨p, l, e, R, s, m, args, below, meth, c⟩, Q, A, H0, ⟨nL, nc, ns⟩, emb, r0⟩ := κ
  obtain ⟨hx, hb, hml, hown, hts, hK, hA, hcs, hR, hNw⟩ := hk
  subst hq
  exact fun hx0 H locs ls hl hP hD hS => lv_ldc2 hx hb hown (hts _ hw) d (k hx0 H locs ls hl hP hD hS)
theorem vv_iload_n {κ : KT Ψ α} {x : Option α} {σ : Ψ} {j : Fin 4} {i : Nat} {a : Int32} (q : Nat) (hk : KO G κ cc own lv) (d : decode cc pc = .ok (.iload_n j, 1)) (hq : pc + 1 = q) (hi : (j : Nat) = i) (hL : L[i]? = some (some (.int a))) (k : VV G κ x σ q L (.int a :: st)) : VV G κ x σ pc L (st) := by
  obtain ⟨⟨p, l, e, R, s, m, args, below, meth, c⟩, Q, A, H0, ⟨nL, nc, ns⟩, emb, r0⟩ := κ
  obtain ⟨hx, hb, hml, hown, hts, hK, hA, hcs, hR, hNw⟩ := hk
  subst hq
  exact fun hx0 H locs ls hl hP hD hS => lv_iload_n hx hb d hi (hl.2.2.2 _ _ hL) (k hx0 H locs ls hl hP hD hS)
theorem vv_iload {κ : KT Ψ α} {x : Option α} {σ : Ψ} {i : Nat} {a : Int32} (q : Nat) (hk : KO G κ cc own lv) (d : decode cc pc = .ok (.iload i, 2)) (hq : pc + 2 = q) (hL : L[i]? = some (some (.int a))) (k : VV G κ x σ q L (.int a :: st)) : VV G κ x σ pc L (st) := by
  obtain ⟨⟨p, l, e, R, s, m, args, below, meth, c⟩, Q, A, H0, ⟨nL, nc, ns⟩, emb, r0⟩ := κ
  obtain ⟨hx, hb, hml, hown, hts, hK, hA, hcs, hR, hNw⟩ := hk
  subst hq
  exact fun hx0 H locs ls hl hP hD hS => lv_iload hx hb d (hl.2.2.2 _ _ hL) (k hx0 H locs ls hl hP hD hS)
theorem vv_lload_n {κ : KT Ψ α} {x : Option α} {σ : Ψ} {j : Fin 4} {i : Nat} {a : Int64} (q : Nat) (hk : KO G κ cc own lv) (d : decode cc pc = .ok (.lload_n j, 1)) (hq : pc + 1 = q) (hi : (j : Nat) = i) (hL : L[i]? = some (some (.long a))) (k : VV G κ x σ q L (.long a :: st)) : VV G κ x σ pc L (st) := by
  obtain ⟨⟨p, l, e, R, s, m, args, below, meth, c⟩, Q, A, H0, ⟨nL, nc, ns⟩, emb, r0⟩ := κ
  obtain ⟨hx, hb, hml, hown, hts, hK, hA, hcs, hR, hNw⟩ := hk
  subst hq
  exact fun hx0 H locs ls hl hP hD hS => lv_lload_n hx hb d hi (hl.2.2.2 _ _ hL) (k hx0 H locs ls hl hP hD hS)
theorem vv_lload {κ : KT Ψ α} {x : Option α} {σ : Ψ} {i : Nat} {a : Int64} (q : Nat) (hk : KO G κ cc own lv) (d : decode cc pc = .ok (.lload i, 2)) (hq : pc + 2 = q) (hL : L[i]? = some (some (.long a))) (k : VV G κ x σ q L (.long a :: st)) : VV G κ x σ pc L (st) := by
  obtain ⟨⟨p, l, e, R, s, m, args, below, meth, c⟩, Q, A, H0, ⟨nL, nc, ns⟩, emb, r0⟩ := κ
  obtain ⟨hx, hb, hml, hown, hts, hK, hA, hcs, hR, hNw⟩ := hk
  subst hq
  exact fun hx0 H locs ls hl hP hD hS => lv_lload hx hb d (hl.2.2.2 _ _ hL) (k hx0 H locs ls hl hP hD hS)
theorem vv_aload_n {κ : KT Ψ α} {x : Option α} {σ : Ψ} {j : Fin 4} {i a : Nat} (q : Nat) (hk : KO G κ cc own lv) (d : decode cc pc = .ok (.aload_n j, 1)) (hq : pc + 1 = q) (hi : (j : Nat) = i) (hL : L[i]? = some (some (rf G a))) (k : VV G κ x σ q L (rf G a :: st)) : VV G κ x σ pc L (st) := by
  obtain ⟨⟨p, l, e, R, s, m, args, below, meth, c⟩, Q, A, H0, ⟨nL, nc, ns⟩, emb, r0⟩ := κ
  obtain ⟨hx, hb, hml, hown, hts, hK, hA, hcs, hR, hNw⟩ := hk
  subst hq
  exact fun hx0 H locs ls hl hP hD hS => lv_aload_n hx hb d hi (hl.2.2.2 _ _ hL) (k hx0 H locs ls hl hP hD hS)
theorem vv_aload {κ : KT Ψ α} {x : Option α} {σ : Ψ} {i a : Nat} (q : Nat) (hk : KO G κ cc own lv) (d : decode cc pc = .ok (.aload i, 2)) (hq : pc + 2 = q) (hL : L[i]? = some (some (rf G a))) (k : VV G κ x σ q L (rf G a :: st)) : VV G κ x σ pc L (st) := by
  obtain ⟨⟨p, l, e, R, s, m, args, below, meth, c⟩, Q, A, H0, ⟨nL, nc, ns⟩, emb, r0⟩ := κ
  obtain ⟨hx, hb, hml, hown, hts, hK, hA, hcs, hR, hNw⟩ := hk
  subst hq
  exact fun hx0 H locs ls hl hP hD hS => lv_aload hx hb d (hl.2.2.2 _ _ hL) (k hx0 H locs ls hl hP hD hS)
theorem vv_sload_n {κ : KT Ψ α} {x : Option α} {σ : Ψ} {j : Fin 4} {i a : Nat} (q : Nat) (hk : KO G κ cc own lv) (d : decode cc pc = .ok (.aload_n j, 1)) (hq : pc + 1 = q) (hi : (j : Nat) = i) (hL : L[i]? = some (some (.ref a))) (k : VV G κ x σ q L (.ref a :: st)) : VV G κ x σ pc L (st) := by
  obtain ⟨⟨p, l, e, R, s, m, args, below, meth, c⟩, Q, A, H0, ⟨nL, nc, ns⟩, emb, r0⟩ := κ
  obtain ⟨hx, hb, hml, hown, hts, hK, hA, hcs, hR, hNw⟩ := hk
  subst hq
  exact fun hx0 H locs ls hl hP hD hS => lv_aload_n hx hb d hi (hl.2.2.2 _ _ hL) (k hx0 H locs ls hl hP hD hS)
theorem vv_iadd {κ : KT Ψ α} {x : Option α} {σ : Ψ} {a b : Int32} (q : Nat) (hk : KO G κ cc own lv) (d : decode cc pc = .ok (.iadd, 1)) (hq : pc + 1 = q) (k : VV G κ x σ q L (.int (a + b) :: st)) : VV G κ x σ pc L (.int b :: .int a :: st) := by
  obtain ⟨⟨p, l, e, R, s, m, args, below, meth, c⟩, Q, A, H0, ⟨nL, nc, ns⟩, emb, r0⟩ := κ
  obtain ⟨hx, hb, hml, hown, hts, hK, hA, hcs, hR, hNw⟩ := hk
  subst hq
  exact fun hx0 H locs ls hl hP hD hS => lv_iadd hx hb d (k hx0 H locs ls hl hP hD hS)
theorem vv_isub {κ : KT Ψ α} {x : Option α} {σ : Ψ} {a b : Int32} (q : Nat) (hk : KO G κ cc own lv) (d : decode cc pc = .ok (.isub, 1)) (hq : pc + 1 = q) (k : VV G κ x σ q L (.int (a - b) :: st)) : VV G κ x σ pc L (.int b :: .int a :: st) := by
  obtain ⟨⟨p, l, e, R, s, m, args, below, meth, c⟩, Q, A, H0, ⟨nL, nc, ns⟩, emb, r0⟩ := κ
  obtain ⟨hx, hb, hml, hown, hts, hK, hA, hcs, hR, hNw⟩ := hk
  subst hq
  exact fun hx0 H locs ls hl hP hD hS => lv_isub hx hb d (k hx0 H locs ls hl hP hD hS)
theorem vv_imul {κ : KT Ψ α} {x : Option α} {σ : Ψ} {a b : Int32} (q : Nat) (hk : KO G κ cc own lv) (d : decode cc pc = .ok (.imul, 1)) (hq : pc + 1 = q) (k : VV G κ x σ q L (.int (a * b) :: st)) : VV G κ x σ pc L (.int b :: .int a :: st) := by
  obtain ⟨⟨p, l, e, R, s, m, args, below, meth, c⟩, Q, A, H0, ⟨nL, nc, ns⟩, emb, r0⟩ := κ
  obtain ⟨hx, hb, hml, hown, hts, hK, hA, hcs, hR, hNw⟩ := hk
  subst hq
  exact fun hx0 H locs ls hl hP hD hS => lv_imul hx hb d (k hx0 H locs ls hl hP hD hS)
theorem vv_iand {κ : KT Ψ α} {x : Option α} {σ : Ψ} {a b : Int32} (q : Nat) (hk : KO G κ cc own lv) (d : decode cc pc = .ok (.iand, 1)) (hq : pc + 1 = q) (k : VV G κ x σ q L (.int (a &&& b) :: st)) : VV G κ x σ pc L (.int b :: .int a :: st) := by
  obtain ⟨⟨p, l, e, R, s, m, args, below, meth, c⟩, Q, A, H0, ⟨nL, nc, ns⟩, emb, r0⟩ := κ
  obtain ⟨hx, hb, hml, hown, hts, hK, hA, hcs, hR, hNw⟩ := hk
  subst hq
  exact fun hx0 H locs ls hl hP hD hS => lv_iand hx hb d (k hx0 H locs ls hl hP hD hS)
theorem vv_ior {κ : KT Ψ α} {x : Option α} {σ : Ψ} {a b : Int32} (q : Nat) (hk : KO G κ cc own lv) (d : decode cc pc = .ok (.ior, 1)) (hq : pc + 1 = q) (k : VV G κ x σ q L (.int (a ||| b) :: st)) : VV G κ x σ pc L (.int b :: .int a :: st) := by
  obtain ⟨⟨p, l, e, R, s, m, args, below, meth, c⟩, Q, A, H0, ⟨nL, nc, ns⟩, emb, r0⟩ := κ
  obtain ⟨hx, hb, hml, hown, hts, hK, hA, hcs, hR, hNw⟩ := hk
  subst hq
  exact fun hx0 H locs ls hl hP hD hS => lv_ior hx hb d (k hx0 H locs ls hl hP hD hS)
theorem vv_ixor {κ : KT Ψ α} {x : Option α} {σ : Ψ} {a b : Int32} (q : Nat) (hk : KO G κ cc own lv) (d : decode cc pc = .ok (.ixor, 1)) (hq : pc + 1 = q) (k : VV G κ x σ q L (.int (a ^^^ b) :: st)) : VV G κ x σ pc L (.int b :: .int a :: st) := by
  obtain ⟨⟨p, l, e, R, s, m, args, below, meth, c⟩, Q, A, H0, ⟨nL, nc, ns⟩, emb, r0⟩ := κ
  obtain ⟨hx, hb, hml, hown, hts, hK, hA, hcs, hR, hNw⟩ := hk
  subst hq
  exact fun hx0 H locs ls hl hP hD hS => lv_ixor hx hb d (k hx0 H locs ls hl hP hD hS)
theorem vv_ladd {κ : KT Ψ α} {x : Option α} {σ : Ψ} {a b : Int64} (q : Nat) (hk : KO G κ cc own lv) (d : decode cc pc = .ok (.ladd, 1)) (hq : pc + 1 = q) (k : VV G κ x σ q L (.long (a + b) :: st)) : VV G κ x σ pc L (.long b :: .long a :: st) := by
  obtain ⟨⟨p, l, e, R, s, m, args, below, meth, c⟩, Q, A, H0, ⟨nL, nc, ns⟩, emb, r0⟩ := κ
  obtain ⟨hx, hb, hml, hown, hts, hK, hA, hcs, hR, hNw⟩ := hk
  subst hq
  exact fun hx0 H locs ls hl hP hD hS => lv_ladd hx hb d (k hx0 H locs ls hl hP hD hS)
theorem vv_lsub {κ : KT Ψ α} {x : Option α} {σ : Ψ} {a b : Int64} (q : Nat) (hk : KO G κ cc own lv) (d : decode cc pc = .ok (.lsub, 1)) (hq : pc + 1 = q) (k : VV G κ x σ q L (.long (a - b) :: st)) : VV G κ x σ pc L (.long b :: .long a :: st) := by
  obtain ⟨⟨p, l, e, R, s, m, args, below, meth, c⟩, Q, A, H0, ⟨nL, nc, ns⟩, emb, r0⟩ := κ
  obtain ⟨hx, hb, hml, hown, hts, hK, hA, hcs, hR, hNw⟩ := hk
  subst hq
  exact fun hx0 H locs ls hl hP hD hS => lv_lsub hx hb d (k hx0 H locs ls hl hP hD hS)
theorem vv_lmul {κ : KT Ψ α} {x : Option α} {σ : Ψ} {a b : Int64} (q : Nat) (hk : KO G κ cc own lv) (d : decode cc pc = .ok (.lmul, 1)) (hq : pc + 1 = q) (k : VV G κ x σ q L (.long (a * b) :: st)) : VV G κ x σ pc L (.long b :: .long a :: st) := by
  obtain ⟨⟨p, l, e, R, s, m, args, below, meth, c⟩, Q, A, H0, ⟨nL, nc, ns⟩, emb, r0⟩ := κ
  obtain ⟨hx, hb, hml, hown, hts, hK, hA, hcs, hR, hNw⟩ := hk
  subst hq
  exact fun hx0 H locs ls hl hP hD hS => lv_lmul hx hb d (k hx0 H locs ls hl hP hD hS)
theorem vv_land {κ : KT Ψ α} {x : Option α} {σ : Ψ} {a b : Int64} (q : Nat) (hk : KO G κ cc own lv) (d : decode cc pc = .ok (.land, 1)) (hq : pc + 1 = q) (k : VV G κ x σ q L (.long (a &&& b) :: st)) : VV G κ x σ pc L (.long b :: .long a :: st) := by
  obtain ⟨⟨p, l, e, R, s, m, args, below, meth, c⟩, Q, A, H0, ⟨nL, nc, ns⟩, emb, r0⟩ := κ
  obtain ⟨hx, hb, hml, hown, hts, hK, hA, hcs, hR, hNw⟩ := hk
  subst hq
  exact fun hx0 H locs ls hl hP hD hS => lv_land hx hb d (k hx0 H locs ls hl hP hD hS)
theorem vv_lor {κ : KT Ψ α} {x : Option α} {σ : Ψ} {a b : Int64} (q : Nat) (hk : KO G κ cc own lv) (d : decode cc pc = .ok (.lor, 1)) (hq : pc + 1 = q) (k : VV G κ x σ q L (.long (a ||| b) :: st)) : VV G κ x σ pc L (.long b :: .long a :: st) := by
  obtain ⟨⟨p, l, e, R, s, m, args, below, meth, c⟩, Q, A, H0, ⟨nL, nc, ns⟩, emb, r0⟩ := κ
  obtain ⟨hx, hb, hml, hown, hts, hK, hA, hcs, hR, hNw⟩ := hk
  subst hq
  exact fun hx0 H locs ls hl hP hD hS => lv_lor hx hb d (k hx0 H locs ls hl hP hD hS)
theorem vv_lxor {κ : KT Ψ α} {x : Option α} {σ : Ψ} {a b : Int64} (q : Nat) (hk : KO G κ cc own lv) (d : decode cc pc = .ok (.lxor, 1)) (hq : pc + 1 = q) (k : VV G κ x σ q L (.long (a ^^^ b) :: st)) : VV G κ x σ pc L (.long b :: .long a :: st) := by
  obtain ⟨⟨p, l, e, R, s, m, args, below, meth, c⟩, Q, A, H0, ⟨nL, nc, ns⟩, emb, r0⟩ := κ
  obtain ⟨hx, hb, hml, hown, hts, hK, hA, hcs, hR, hNw⟩ := hk
  subst hq
  exact fun hx0 H locs ls hl hP hD hS => lv_lxor hx hb d (k hx0 H locs ls hl hP hD hS)
theorem vv_ishl {κ : KT Ψ α} {x : Option α} {σ : Ψ} {a b : Int32} (q : Nat) (hk : KO G κ cc own lv) (d : decode cc pc = .ok (.ishl, 1)) (hq : pc + 1 = q) (k : VV G κ x σ q L (.int (a <<< (b &&& 31)) :: st)) : VV G κ x σ pc L (.int b :: .int a :: st) := by
  obtain ⟨⟨p, l, e, R, s, m, args, below, meth, c⟩, Q, A, H0, ⟨nL, nc, ns⟩, emb, r0⟩ := κ
  obtain ⟨hx, hb, hml, hown, hts, hK, hA, hcs, hR, hNw⟩ := hk
  subst hq
  exact fun hx0 H locs ls hl hP hD hS => lv_ishl hx hb d (k hx0 H locs ls hl hP hD hS)
theorem vv_ishr {κ : KT Ψ α} {x : Option α} {σ : Ψ} {a b : Int32} (q : Nat) (hk : KO G κ cc own lv) (d : decode cc pc = .ok (.ishr, 1)) (hq : pc + 1 = q) (k : VV G κ x σ q L (.int (a >>> (b &&& 31)) :: st)) : VV G κ x σ pc L (.int b :: .int a :: st) := by
  obtain ⟨⟨p, l, e, R, s, m, args, below, meth, c⟩, Q, A, H0, ⟨nL, nc, ns⟩, emb, r0⟩ := κ
  obtain ⟨hx, hb, hml, hown, hts, hK, hA, hcs, hR, hNw⟩ := hk
  subst hq
  exact fun hx0 H locs ls hl hP hD hS => lv_ishr hx hb d (k hx0 H locs ls hl hP hD hS)
theorem vv_iushr {κ : KT Ψ α} {x : Option α} {σ : Ψ} {a b : Int32} (q : Nat) (hk : KO G κ cc own lv) (d : decode cc pc = .ok (.iushr, 1)) (hq : pc + 1 = q) (k : VV G κ x σ q L (.int ((a.toUInt32 >>> (b.toUInt32 &&& Int32.toUInt32 31)).toInt32) :: st)) : VV G κ x σ pc L (.int b :: .int a :: st) := by
  obtain ⟨⟨p, l, e, R, s, m, args, below, meth, c⟩, Q, A, H0, ⟨nL, nc, ns⟩, emb, r0⟩ := κ
  obtain ⟨hx, hb, hml, hown, hts, hK, hA, hcs, hR, hNw⟩ := hk
  subst hq
  exact fun hx0 H locs ls hl hP hD hS => lv_iushr hx hb d rfl (k hx0 H locs ls hl hP hD hS)
theorem vv_lshl {κ : KT Ψ α} {x : Option α} {σ : Ψ} {a : Int64} {b : Int32} (q : Nat) (hk : KO G κ cc own lv) (d : decode cc pc = .ok (.lshl, 1)) (hq : pc + 1 = q) (k : VV G κ x σ q L (.long (a <<< (b.toInt64 &&& 63)) :: st)) : VV G κ x σ pc L (.int b :: .long a :: st) := by
  obtain ⟨⟨p, l, e, R, s, m, args, below, meth, c⟩, Q, A, H0, ⟨nL, nc, ns⟩, emb, r0⟩ := κ
  obtain ⟨hx, hb, hml, hown, hts, hK, hA, hcs, hR, hNw⟩ := hk
  subst hq
  exact fun hx0 H locs ls hl hP hD hS => lv_lshl hx hb d rfl (k hx0 H locs ls hl hP hD hS)
theorem vv_lshr {κ : KT Ψ α} {x : Option α} {σ : Ψ} {a : Int64} {b : Int32} (q : Nat) (hk : KO G κ cc own lv) (d : decode cc pc = .ok (.lshr, 1)) (hq : pc + 1 = q) (k : VV G κ x σ q L (.long (a >>> (b.toInt64 &&& 63)) :: st)) : VV G κ x σ pc L (.int b :: .long a :: st) := by
  obtain ⟨⟨p, l, e, R, s, m, args, below, meth, c⟩, Q, A, H0, ⟨nL, nc, ns⟩, emb, r0⟩ := κ
  obtain ⟨hx, hb, hml, hown, hts, hK, hA, hcs, hR, hNw⟩ := hk
  subst hq
  exact fun hx0 H locs ls hl hP hD hS => lv_lshr hx hb d rfl (k hx0 H locs ls hl hP hD hS)
theorem vv_lushr {κ : KT Ψ α} {x : Option α} {σ : Ψ} {a : Int64} {b : Int32} (q : Nat) (hk : KO G κ cc own lv) (d : decode cc pc = .ok (.lushr, 1)) (hq : pc + 1 = q) (k : VV G κ x σ q L (.long ((a.toUInt64 >>> (b.toInt64.toUInt64 &&& Int64.toUInt64 63)).toInt64) :: st)) : VV G κ x σ pc L (.int b :: .long a :: st) := by
  obtain ⟨⟨p, l, e, R, s, m, args, below, meth, c⟩, Q, A, H0, ⟨nL, nc, ns⟩, emb, r0⟩ := κ
  obtain ⟨hx, hb, hml, hown, hts, hK, hA, hcs, hR, hNw⟩ := hk
  subst hq
  exact fun hx0 H locs ls hl hP hD hS => lv_lushr hx hb d rfl (k hx0 H locs ls hl hP hD hS)
theorem vv_ineg {κ : KT Ψ α} {x : Option α} {σ : Ψ} {a : Int32} (q : Nat) (hk : KO G κ cc own lv) (d : decode cc pc = .ok (.ineg, 1)) (hq : pc + 1 = q) (k : VV G κ x σ q L (.int (-a) :: st)) : VV G κ x σ pc L (.int a :: st) := by
  obtain ⟨⟨p, l, e, R, s, m, args, below, meth, c⟩, Q, A, H0, ⟨nL, nc, ns⟩, emb, r0⟩ := κ
  obtain ⟨hx, hb, hml, hown, hts, hK, hA, hcs, hR, hNw⟩ := hk
  subst hq
  exact fun hx0 H locs ls hl hP hD hS => lv_ineg hx hb d (k hx0 H locs ls hl hP hD hS)
theorem vv_lneg {κ : KT Ψ α} {x : Option α} {σ : Ψ} {a : Int64} (q : Nat) (hk : KO G κ cc own lv) (d : decode cc pc = .ok (.lneg, 1)) (hq : pc + 1 = q) (k : VV G κ x σ q L (.long (-a) :: st)) : VV G κ x σ pc L (.long a :: st) := by
  obtain ⟨⟨p, l, e, R, s, m, args, below, meth, c⟩, Q, A, H0, ⟨nL, nc, ns⟩, emb, r0⟩ := κ
  obtain ⟨hx, hb, hml, hown, hts, hK, hA, hcs, hR, hNw⟩ := hk
  subst hq
  exact fun hx0 H locs ls hl hP hD hS => lv_lneg hx hb d (k hx0 H locs ls hl hP hD hS)
theorem vv_i2l {κ : KT Ψ α} {x : Option α} {σ : Ψ} {a : Int32} (q : Nat) (hk : KO G κ cc own lv) (d : decode cc pc = .ok (.i2l, 1)) (hq : pc + 1 = q) (k : VV G κ x σ q L (.long a.toInt64 :: st)) : VV G κ x σ pc L (.int a :: st) := by
  obtain ⟨⟨p, l, e, R, s, m, args, below, meth, c⟩, Q, A, H0, ⟨nL, nc, ns⟩, emb, r0⟩ := κ
  obtain ⟨hx, hb, hml, hown, hts, hK, hA, hcs, hR, hNw⟩ := hk
  subst hq
  exact fun hx0 H locs ls hl hP hD hS => lv_i2l hx hb d rfl (k hx0 H locs ls hl hP hD hS)
theorem vv_l2i {κ : KT Ψ α} {x : Option α} {σ : Ψ} {a : Int64} (q : Nat) (hk : KO G κ cc own lv) (d : decode cc pc = .ok (.l2i, 1)) (hq : pc + 1 = q) (k : VV G κ x σ q L (.int a.toInt32 :: st)) : VV G κ x σ pc L (.long a :: st) := by
  obtain ⟨⟨p, l, e, R, s, m, args, below, meth, c⟩, Q, A, H0, ⟨nL, nc, ns⟩, emb, r0⟩ := κ
  obtain ⟨hx, hb, hml, hown, hts, hK, hA, hcs, hR, hNw⟩ := hk
  subst hq
  exact fun hx0 H locs ls hl hP hD hS => lv_l2i hx hb d rfl (k hx0 H locs ls hl hP hD hS)
theorem vv_lcmp {κ : KT Ψ α} {x : Option α} {σ : Ψ} {a b : Int64} (q : Nat) (hk : KO G κ cc own lv) (d : decode cc pc = .ok (.lcmp, 1)) (hq : pc + 1 = q) (k : VV G κ x σ q L (.int (lg_cmp a b) :: st)) : VV G κ x σ pc L (.long b :: .long a :: st) := by
  obtain ⟨⟨p, l, e, R, s, m, args, below, meth, c⟩, Q, A, H0, ⟨nL, nc, ns⟩, emb, r0⟩ := κ
  obtain ⟨hx, hb, hml, hown, hts, hK, hA, hcs, hR, hNw⟩ := hk
  subst hq
  exact fun hx0 H locs ls hl hP hD hS => W.lcmp hx hb d (k hx0 H locs ls hl hP hD hS)
theorem vv_dup {κ : KT Ψ α} {x : Option α} {σ : Ψ} {u : Value} (q : Nat) (hk : KO G κ cc own lv) (d : decode cc pc = .ok (.dup, 1)) (hq : pc + 1 = q) (hu : u.category = 1) (k : VV G κ x σ q L (u :: u :: st)) : VV G κ x σ pc L (u :: st) := by
  obtain ⟨⟨p, l, e, R, s, m, args, below, meth, c⟩, Q, A, H0, ⟨nL, nc, ns⟩, emb, r0⟩ := κ
  obtain ⟨hx, hb, hml, hown, hts, hK, hA, hcs, hR, hNw⟩ := hk
  subst hq
  exact fun hx0 H locs ls hl hP hD hS => lv_dup hx hb d hu (k hx0 H locs ls hl hP hD hS)
theorem vv_dup_x1 {κ : KT Ψ α} {x : Option α} {σ : Ψ} {u w : Value} (q : Nat) (hk : KO G κ cc own lv) (d : decode cc pc = .ok (.dup_x1, 1)) (hq : pc + 1 = q) (hu : u.category = 1) (hw : w.category = 1) (k : VV G κ x σ q L (u :: w :: u :: st)) : VV G κ x σ pc L (u :: w :: st) := by
  obtain ⟨⟨p, l, e, R, s, m, args, below, meth, c⟩, Q, A, H0, ⟨nL, nc, ns⟩, emb, r0⟩ := κ
  obtain ⟨hx, hb, hml, hown, hts, hK, hA, hcs, hR, hNw⟩ := hk
  subst hq
  exact fun hx0 H locs ls hl hP hD hS => lv_dup_x1 hx hb d hu hw (k hx0 H locs ls hl hP hD hS)
theorem vv_dup2 {κ : KT Ψ α} {x : Option α} {σ : Ψ} {u w : Value} (q : Nat) (hk : KO G κ cc own lv) (d : decode cc pc = .ok (.dup2, 1)) (hq : pc + 1 = q) (hu : u.category = 1) (hw : w.category = 1) (k : VV G κ x σ q L (u :: w :: u :: w :: st)) : VV G κ x σ pc L (u :: w :: st) := by
  obtain ⟨⟨p, l, e, R, s, m, args, below, meth, c⟩, Q, A, H0, ⟨nL, nc, ns⟩, emb, r0⟩ := κ
  obtain ⟨hx, hb, hml, hown, hts, hK, hA, hcs, hR, hNw⟩ := hk
  subst hq
  exact fun hx0 H locs ls hl hP hD hS => lv_dup2_11 hx hb d hu hw (k hx0 H locs ls hl hP hD hS)
theorem vv_dup2l {κ : KT Ψ α} {x : Option α} {σ : Ψ} {u : Value} (q : Nat) (hk : KO G κ cc own lv) (d : decode cc pc = .ok (.dup2, 1)) (hq : pc + 1 = q) (hu : u.category = 2) (k : VV G κ x σ q L (u :: u :: st)) : VV G κ x σ pc L (u :: st) := by
  obtain ⟨⟨p, l, e, R, s, m, args, below, meth, c⟩, Q, A, H0, ⟨nL, nc, ns⟩, emb, r0⟩ := κ
  obtain ⟨hx, hb, hml, hown, hts, hK, hA, hcs, hR, hNw⟩ := hk
  subst hq
  exact fun hx0 H locs ls hl hP hD hS => lv_dup2_2 hx hb d hu (k hx0 H locs ls hl hP hD hS)
theorem vv_pop {κ : KT Ψ α} {x : Option α} {σ : Ψ} {u : Value} (q : Nat) (hk : KO G κ cc own lv) (d : decode cc pc = .ok (.pop, 1)) (hq : pc + 1 = q) (hu : u.category = 1) (k : VV G κ x σ q L (st)) : VV G κ x σ pc L (u :: st) := by
  obtain ⟨⟨p, l, e, R, s, m, args, below, meth, c⟩, Q, A, H0, ⟨nL, nc, ns⟩, emb, r0⟩ := κ
  obtain ⟨hx, hb, hml, hown, hts, hK, hA, hcs, hR, hNw⟩ := hk
  subst hq
  exact fun hx0 H locs ls hl hP hD hS => lv_pop hx hb d hu (k hx0 H locs ls hl hP hD hS)
theorem vv_idiv {κ : KT Ψ α} {x : Option α} {σ : Ψ} {a b : Int32} (q : Nat) (hk : KO G κ cc own lv) (d : decode cc pc = .ok (.idiv, 1)) (hq : pc + 1 = q) (k : VV G κ x σ q L (.int (a / b) :: st)) : VV G κ (dvI b x) σ pc L (.int b :: .int a :: st) := by
  obtain ⟨⟨p, l, e, R, s, m, args, below, meth, c⟩, Q, A, H0, ⟨nL, nc, ns⟩, emb, r0⟩ := κ
  obtain ⟨hx, hb, hml, hown, hts, hK, hA, hcs, hR, hNw⟩ := hk
  subst hq
  intro hx0 H locs ls hl hP hD hS
  unfold dvI at hx0
  split at hx0
  · cases hx0
  · exact lv_idiv hx hb d (by assumption) (k hx0 H locs ls hl hP hD hS)
theorem vv_irem {κ : KT Ψ α} {x : Option α} {σ : Ψ} {a b : Int32} (q : Nat) (hk : KO G κ cc own lv) (d : decode cc pc = .ok (.irem, 1)) (hq : pc + 1 = q) (k : VV G κ x σ q L (.int (a - a / b * b) :: st)) : VV G κ (dvI b x) σ pc L (.int b :: .int a :: st) := by
  obtain ⟨⟨p, l, e, R, s, m, args, below, meth, c⟩, Q, A, H0, ⟨nL, nc, ns⟩, emb, r0⟩ := κ
  obtain ⟨hx, hb, hml, hown, hts, hK, hA, hcs, hR, hNw⟩ := hk
  subst hq
  intro hx0 H locs ls hl hP hD hS
  unfold dvI at hx0
  split at hx0
  · cases hx0
  · exact lv_irem hx hb d (by assumption) (k hx0 H locs ls hl hP hD hS)
theorem vv_ldiv {κ : KT Ψ α} {x : Option α} {σ : Ψ} {a b : Int64} (q : Nat) (hk : KO G κ cc own lv) (d : decode cc pc = .ok (.ldiv, 1)) (hq : pc + 1 = q) (k : VV G κ x σ q L (.long (a / b) :: st)) : VV G κ (dvJ b x) σ pc L (.long b :: .long a :: st) := by
  obtain ⟨⟨p, l, e, R, s, m, args, below, meth, c⟩, Q, A, H0, ⟨nL, nc, ns⟩, emb, r0⟩ := κ
  obtain ⟨hx, hb, hml, hown, hts, hK, hA, hcs, hR, hNw⟩ := hk
  subst hq
  intro hx0 H locs ls hl hP hD hS
  unfold dvJ at hx0
  split at hx0
  · cases hx0
  · exact lv_ldiv hx hb d (by assumption) (k hx0 H locs ls hl hP hD hS)
theorem vv_lrem {κ : KT Ψ α} {x : Option α} {σ : Ψ} {a b : Int64} (q : Nat) (hk : KO G κ cc own lv) (d : decode cc pc = .ok (.lrem, 1)) (hq : pc + 1 = q) (k : VV G κ x σ q L (.long (a - a / b * b) :: st)) : VV G κ (dvJ b x) σ pc L (.long b :: .long a :: st) := by
  obtain ⟨⟨p, l, e, R, s, m, args, below, meth, c⟩, Q, A, H0, ⟨nL, nc, ns⟩, emb, r0⟩ := κ
  obtain ⟨hx, hb, hml, hown, hts, hK, hA, hcs, hR, hNw⟩ := hk
  subst hq
  intro hx0 H locs ls hl hP hD hS
  unfold dvJ at hx0
  split at hx0
  · cases hx0
  · exact lv_lrem hx hb d (by assumption) (k hx0 H locs ls hl hP hD hS)
theorem vv_istore_n {κ : KT Ψ α} {x : Option α} {σ : Ψ} {j : Fin 4} {i : Nat} {a : Int32} (q : Nat) (L' : List (Option Value)) (hk : KO G κ cc own lv) (d : decode cc pc = .ok (.istore_n j, 1)) (hq : pc + 1 = q) (hi : (j : Nat) = i) (hn : Nat.ble L.length i = false) (hs : st1 L i (.int a) = L') (k : VV G κ x σ q L' st) : VV G κ x σ pc L (.int a :: st) := by
  obtain ⟨⟨p, l, e, R, s, m, args, below, meth, c⟩, Q, A, H0, ⟨nL, nc, ns⟩, emb, r0⟩ := κ
  obtain ⟨hx, hb, hml, hown, hts, hK, hA, hcs, hR, hNw⟩ := hk
  subst hq
  subst hs
  intro hx0 H locs ls hl hP hD hS
  exact lv_istore_n hx hb d hi (lvL_has hl) (by rw [← hl.2.1]; exact Nat.lt_of_not_le fun w => by rw [Nat.ble_eq.mpr w] at hn; cases hn) rfl (fun ls' hl' => k hx0 H locs ls' (lvL_st1 hl.2.1 hl') hP hD hS)
theorem vv_istore_nL {κ : KT Ψ α} {f : Int32 → Option α} {σ : Ψ} {j : Fin 4} {i : Nat} {a : Int32} (q : Nat) (L' : Int32 → List (Option Value)) (hk : KO G κ cc own lv) (d : decode cc pc = .ok (.istore_n j, 1)) (hq : pc + 1 = q) (hi : (j : Nat) = i) (hn : Nat.ble L.length i = false) (hs : ∀ v, st1 L i (.int v) = L' v) (k : ∀ v, VV G κ (f v) σ q (L' v) st) : VV G κ (lt a f) σ pc L (.int a :: st) :=
  vv_istore_n q (L' a) hk d hq hi hn (hs a) (k a)
theorem vv_istore {κ : KT Ψ α} {x : Option α} {σ : Ψ} {i : Nat} {a : Int32} (q : Nat) (L' : List (Option Value)) (hk : KO G κ cc own lv) (d : decode cc pc = .ok (.istore i, 2)) (hq : pc + 2 = q) (hn : Nat.ble L.length i = false) (hs : st1 L i (.int a) = L') (k : VV G κ x σ q L' st) : VV G κ x σ pc L (.int a :: st) := by
  obtain ⟨⟨p, l, e, R, s, m, args, below, meth, c⟩, Q, A, H0, ⟨nL, nc, ns⟩, emb, r0⟩ := κ
  obtain ⟨hx, hb, hml, hown, hts, hK, hA, hcs, hR, hNw⟩ := hk
  subst hq
  subst hs
  intro hx0 H locs ls hl hP hD hS
  exact lv_istore hx hb d (lvL_has hl) (by rw [← hl.2.1]; exact Nat.lt_of_not_le fun w => by rw [Nat.ble_eq.mpr w] at hn; cases hn) rfl (fun ls' hl' => k hx0 H locs ls' (lvL_st1 hl.2.1 hl') hP hD hS)
theorem vv_istoreL {κ : KT Ψ α} {f : Int32 → Option α} {σ : Ψ} {i : Nat} {a : Int32} (q : Nat) (L' : Int32 → List (Option Value)) (hk : KO G κ cc own lv) (d : decode cc pc = .ok (.istore i, 2)) (hq : pc + 2 = q) (hn : Nat.ble L.length i = false) (hs : ∀ v, st1 L i (.int v) = L' v) (k : ∀ v, VV G κ (f v) σ q (L' v) st) : VV G κ (lt a f) σ pc L (.int a :: st) :=
  vv_istore q (L' a) hk d hq hn (hs a) (k a)
theorem vv_lstore_n {κ : KT Ψ α} {x : Option α} {σ : Ψ} {j : Fin 4} {i : Nat} {a : Int64} (q : Nat) (L' : List (Option Value)) (hk : KO G κ cc own lv) (d : decode cc pc = .ok (.lstore_n j, 1)) (hq : pc + 1 = q) (hi : (j : Nat) = i) (hn : Nat.ble L.length (i + 1) = false) (hs : st2 L i (.long a) = L') (k : VV G κ x σ q L' st) : VV G κ x σ pc L (.long a :: st) := by
  obtain ⟨⟨p, l, e, R, s, m, args, below, meth, c⟩, Q, A, H0, ⟨nL, nc, ns⟩, emb, r0⟩ := κ
  obtain ⟨hx, hb, hml, hown, hts, hK, hA, hcs, hR, hNw⟩ := hk
  subst hq
  subst hs
  intro hx0 H locs ls hl hP hD hS
  exact lv_lstore_n hx hb d hi (lvL_has hl) (by rw [← hl.2.1]; exact Nat.lt_of_not_le fun w => by rw [Nat.ble_eq.mpr w] at hn; cases hn) rfl (fun ls' hl' => k hx0 H locs ls' (lvL_st2 hl.2.1 (by rw [← hl.2.1]; exact Nat.lt_of_not_le fun w => by rw [Nat.ble_eq.mpr w] at hn; cases hn) hl') hP hD hS)
theorem vv_lstore_nL {κ : KT Ψ α} {f : Int64 → Option α} {σ : Ψ} {j : Fin 4} {i : Nat} {a : Int64} (q : Nat) (L' : Int64 → List (Option Value)) (hk : KO G κ cc own lv) (d : decode cc pc = .ok (.lstore_n j, 1)) (hq : pc + 1 = q) (hi : (j : Nat) = i) (hn : Nat.ble L.length (i + 1) = false) (hs : ∀ v, st2 L i (.long v) = L' v) (k : ∀ v, VV G κ (f v) σ q (L' v) st) : VV G κ (lt a f) σ pc L (.long a :: st) :=
  vv_lstore_n q (L' a) hk d hq hi hn (hs a) (k a)
theorem vv_lstore {κ : KT Ψ α} {x : Option α} {σ : Ψ} {i : Nat} {a : Int64} (q : Nat) (L' : List (Option Value)) (hk : KO G κ cc own lv) (d : decode cc pc = .ok (.lstore i, 2)) (hq : pc + 2 = q) (hn : Nat.ble L.length (i + 1) = false) (hs : st2 L i (.long a) = L') (k : VV G κ x σ q L' st) : VV G κ x σ pc L (.long a :: st) := by
  obtain ⟨⟨p, l, e, R, s, m, args, below, meth, c⟩, Q, A, H0, ⟨nL, nc, ns⟩, emb, r0⟩ := κ
  obtain ⟨hx, hb, hml, hown, hts, hK, hA, hcs, hR, hNw⟩ := hk
  subst hq
  subst hs
  intro hx0 H locs ls hl hP hD hS
  exact lv_lstore hx hb d (lvL_has hl) (by rw [← hl.2.1]; exact Nat.lt_of_not_le fun w => by rw [Nat.ble_eq.mpr w] at hn; cases hn) rfl (fun ls' hl' => k hx0 H locs ls' (lvL_st2 hl.2.1 (by rw [← hl.2.1]; exact Nat.lt_of_not_le fun w => by rw [Nat.ble_eq.mpr w] at hn; cases hn) hl') hP hD hS)
theorem vv_lstoreL {κ : KT Ψ α} {f : Int64 → Option α} {σ : Ψ} {i : Nat} {a : Int64} (q : Nat) (L' : Int64 → List (Option Value)) (hk : KO G κ cc own lv) (d : decode cc pc = .ok (.lstore i, 2)) (hq : pc + 2 = q) (hn : Nat.ble L.length (i + 1) = false) (hs : ∀ v, st2 L i (.long v) = L' v) (k : ∀ v, VV G κ (f v) σ q (L' v) st) : VV G κ (lt a f) σ pc L (.long a :: st) :=
  vv_lstore q (L' a) hk d hq hn (hs a) (k a)
theorem vv_iinc {κ : KT Ψ α} {f : Int32 → Option α} {σ : Ψ} {i : Nat} {n : Int} {w a : Int32} (q : Nat) (L' : Int32 → List (Option Value)) (hk : KO G κ cc own lv) (d : decode cc pc = .ok (.iinc i n, 3)) (hq : pc + 3 = q) (hL : L[i]? = some (some (.int a))) (hw : Int32.ofInt n = w) (hs : ∀ v, st1 L i (.int v) = L' v) (k : ∀ v, VV G κ (f v) σ q (L' v) st) : VV G κ (lt (a + w) f) σ pc L st := by
  have k := k (a + w)
  rw [← hs] at k
  obtain ⟨⟨p, l, e, R, s, m, args, below, meth, c⟩, Q, A, H0, ⟨nL, nc, ns⟩, emb, r0⟩ := κ
  obtain ⟨hx, hb, hml, hown, hts, hK, hA, hcs, hR, hNw⟩ := hk
  subst hq
  subst hw
  intro hx0 H locs ls hl hP hD hS
  obtain ⟨j, hj⟩ := List.getElem?_of_mem (prs_in.mpr hL : (i, Value.int a) ∈ prs L)
  exact lv_iinc hx hb d (lvL_has hl) hj rfl (by rw [← hl.2.1]; exact (List.getElem?_eq_some_iff.mp hL).1) rfl (fun ls' hl' => k hx0 H locs ls' (lvL_st1 hl.2.1 hl') hP hD hS)
theorem vv_astore_n {κ : KT Ψ α} {x : Option α} {σ : Ψ} {j : Fin 4} {i a : Nat} (q : Nat) (L' : List (Option Value)) (hk : KO G κ cc own lv) (d : decode cc pc = .ok (.astore_n j, 1)) (hq : pc + 1 = q) (hi : (j : Nat) = i) (hn : Nat.ble L.length i = false) (hs : st1 L i (.ref a) = L') (k : VV G κ x σ q L' st) : VV G κ x σ pc L (.ref a :: st) := by
  obtain ⟨⟨p, l, e, R, s, m, args, below, meth, c⟩, Q, A, H0, ⟨nL, nc, ns⟩, emb, r0⟩ := κ
  obtain ⟨hx, hb, hml, hown, hts, hK, hA, hcs, hR, hNw⟩ := hk
  subst hq
  subst hs
  intro hx0 H locs ls hl hP hD hS
  exact lv_astore_n hx hb d hi (lvL_has hl) (by rw [← hl.2.1]; exact Nat.lt_of_not_le fun w => by rw [Nat.ble_eq.mpr w] at hn; cases hn) rfl (fun ls' hl' => k hx0 H locs ls' (lvL_st1 hl.2.1 hl') hP hD hS)
theorem vv_goto {κ : KT Ψ α} {x : Option α} {σ : Ψ} {off : Int} (q : Nat) (hk : KO G κ cc own lv) (d : decode cc pc = .ok (.goto off, 3)) (ht : (pc : Int) + off = (q : Int)) (k : VV G κ x σ q L st) : VV G κ x σ pc L st := by
  obtain ⟨⟨p, l, e, R, s, m, args, below, meth, c⟩, Q, A, H0, ⟨nL, nc, ns⟩, emb, r0⟩ := κ
  obtain ⟨hx, hb, hml, hown, hts, hK, hA, hcs, hR, hNw⟩ := hk
  exact fun hx0 H locs ls hl hP hD hS => lv_goto hx hb d ht (k hx0 H locs ls hl hP hD hS)
theorem vv_le {κ : KT Ψ α} {x : Option α} {σ : Ψ} (hl : LL L' L) (k : VV G κ x σ pc L' st) : VV G κ x σ pc L st := by
  obtain ⟨⟨p, l, e, R, s, m, args, below, meth, c⟩, Q, A, H0, ⟨nL, nc, ns⟩, emb, r0⟩ := κ
  exact fun hx0 H locs ls h hP hD hS => k hx0 H locs ls ⟨h.1, by rw [ll_len hl, h.2.1], h.2.2.1, fun i v hi => h.2.2.2 i v (ll_get hl i v hi)⟩ hP hD hS
theorem vv_none {κ : KT Ψ α} {σ : Ψ} : VV G κ none σ pc L st := by
  obtain ⟨⟨p, l, e, R, s, m, args, below, meth, c⟩, Q, A, H0, ⟨nL, nc, ns⟩, emb, r0⟩ := κ
  exact fun hx0 => by cases hx0
theorem vv_icmp_eq {κ : KT Ψ α} {x y : Option α} {σ : Ψ} {a b : Int32} {off : Int} [Decidable (a = b)] (t q : Nat) (hk : KO G κ cc own lv) (d : decode cc pc = .ok (.if_icmp .eq off, 3)) (ht : (pc : Int) + off = (t : Int)) (hq : pc + 3 = q) (k1 : VV G κ x σ t L st) (k2 : VV G κ y σ q L st) : VV G κ (if a = b then x else y) σ pc L (.int b :: .int a :: st) := by
  obtain ⟨⟨p, l, e, R, s, m, args, below, meth, c⟩, Q, A, H0, ⟨nL, nc, ns⟩, emb, r0⟩ := κ
  obtain ⟨hx, hb, hml, hown, hts, hK, hA, hcs, hR, hNw⟩ := hk
  subst hq
  exact fun hx0 H locs ls hl hP hD hS => lv_icmp_eq hx hb d ht (fun h => k1 (by rw [if_pos h] at hx0; exact hx0) H locs ls hl hP hD hS) (fun h => k2 (by rw [if_neg h] at hx0; exact hx0) H locs ls hl hP hD hS)
theorem vv_if_eq {κ : KT Ψ α} {x y : Option α} {σ : Ψ} {a : Int32} {off : Int} [Decidable (a = 0)] (t q : Nat) (hk : KO G κ cc own lv) (d : decode cc pc = .ok (.ifCond .eq off, 3)) (ht : (pc : Int) + off = (t : Int)) (hq : pc + 3 = q) (k1 : VV G κ x σ t L st) (k2 : VV G κ y σ q L st) : VV G κ (if a = 0 then x else y) σ pc L (.int a :: st) := by
  obtain ⟨⟨p, l, e, R, s, m, args, below, meth, c⟩, Q, A, H0, ⟨nL, nc, ns⟩, emb, r0⟩ := κ
  obtain ⟨hx, hb, hml, hown, hts, hK, hA, hcs, hR, hNw⟩ := hk
  subst hq
  exact fun hx0 H locs ls hl hP hD hS => lv_if_eq hx hb d ht (fun h => k1 (by rw [if_pos h] at hx0; exact hx0) H locs ls hl hP hD hS) (fun h => k2 (by rw [if_neg h] at hx0; exact hx0) H locs ls hl hP hD hS)
theorem vv_icmp_ne {κ : KT Ψ α} {x y : Option α} {σ : Ψ} {a b : Int32} {off : Int} [Decidable (a = b)] (t q : Nat) (hk : KO G κ cc own lv) (d : decode cc pc = .ok (.if_icmp .ne off, 3)) (ht : (pc : Int) + off = (t : Int)) (hq : pc + 3 = q) (k1 : VV G κ x σ q L st) (k2 : VV G κ y σ t L st) : VV G κ (if a = b then x else y) σ pc L (.int b :: .int a :: st) := by
  obtain ⟨⟨p, l, e, R, s, m, args, below, meth, c⟩, Q, A, H0, ⟨nL, nc, ns⟩, emb, r0⟩ := κ
  obtain ⟨hx, hb, hml, hown, hts, hK, hA, hcs, hR, hNw⟩ := hk
  subst hq
  exact fun hx0 H locs ls hl hP hD hS => lv_icmp_ne hx hb d ht (fun h => k2 (by rw [if_neg h] at hx0; exact hx0) H locs ls hl hP hD hS) (fun h => k1 (by rw [if_pos h] at hx0; exact hx0) H locs ls hl hP hD hS)
theorem vv_if_ne {κ : KT Ψ α} {x y : Option α} {σ : Ψ} {a : Int32} {off : Int} [Decidable (a = 0)] (t q : Nat) (hk : KO G κ cc own lv) (d : decode cc pc = .ok (.ifCond .ne off, 3)) (ht : (pc : Int) + off = (t : Int)) (hq : pc + 3 = q) (k1 : VV G κ x σ q L st) (k2 : VV G κ y σ t L st) : VV G κ (if a = 0 then x else y) σ pc L (.int a :: st) := by
  obtain ⟨⟨p, l, e, R, s, m, args, below, meth, c⟩, Q, A, H0, ⟨nL, nc, ns⟩, emb, r0⟩ := κ
  obtain ⟨hx, hb, hml, hown, hts, hK, hA, hcs, hR, hNw⟩ := hk
  subst hq
  exact fun hx0 H locs ls hl hP hD hS => lv_if_ne hx hb d ht (fun h => k2 (by rw [if_neg h] at hx0; exact hx0) H locs ls hl hP hD hS) (fun h => k1 (by rw [if_pos h] at hx0; exact hx0) H locs ls hl hP hD hS)
theorem vv_icmp_lt {κ : KT Ψ α} {x y : Option α} {σ : Ψ} {a b : Int32} {off : Int} [Decidable (a < b)] (t q : Nat) (hk : KO G κ cc own lv) (d : decode cc pc = .ok (.if_icmp .lt off, 3)) (ht : (pc : Int) + off = (t : Int)) (hq : pc + 3 = q) (k1 : VV G κ x σ t L st) (k2 : VV G κ y σ q L st) : VV G κ (if a < b then x else y) σ pc L (.int b :: .int a :: st) := by
  obtain ⟨⟨p, l, e, R, s, m, args, below, meth, c⟩, Q, A, H0, ⟨nL, nc, ns⟩, emb, r0⟩ := κ
  obtain ⟨hx, hb, hml, hown, hts, hK, hA, hcs, hR, hNw⟩ := hk
  subst hq
  exact fun hx0 H locs ls hl hP hD hS => lv_icmp_lt hx hb d ht (fun h => k1 (by rw [if_pos h] at hx0; exact hx0) H locs ls hl hP hD hS) (fun h => k2 (by rw [if_neg h] at hx0; exact hx0) H locs ls hl hP hD hS)
theorem vv_if_lt {κ : KT Ψ α} {x y : Option α} {σ : Ψ} {a : Int32} {off : Int} [Decidable (a < 0)] (t q : Nat) (hk : KO G κ cc own lv) (d : decode cc pc = .ok (.ifCond .lt off, 3)) (ht : (pc : Int) + off = (t : Int)) (hq : pc + 3 = q) (k1 : VV G κ x σ t L st) (k2 : VV G κ y σ q L st) : VV G κ (if a < 0 then x else y) σ pc L (.int a :: st) := by
  obtain ⟨⟨p, l, e, R, s, m, args, below, meth, c⟩, Q, A, H0, ⟨nL, nc, ns⟩, emb, r0⟩ := κ
  obtain ⟨hx, hb, hml, hown, hts, hK, hA, hcs, hR, hNw⟩ := hk
  subst hq
  exact fun hx0 H locs ls hl hP hD hS => lv_if_lt hx hb d ht (fun h => k1 (by rw [if_pos h] at hx0; exact hx0) H locs ls hl hP hD hS) (fun h => k2 (by rw [if_neg h] at hx0; exact hx0) H locs ls hl hP hD hS)
theorem vv_icmp_ge {κ : KT Ψ α} {x y : Option α} {σ : Ψ} {a b : Int32} {off : Int} [Decidable (b ≤ a)] (t q : Nat) (hk : KO G κ cc own lv) (d : decode cc pc = .ok (.if_icmp .ge off, 3)) (ht : (pc : Int) + off = (t : Int)) (hq : pc + 3 = q) (k1 : VV G κ x σ t L st) (k2 : VV G κ y σ q L st) : VV G κ (if b ≤ a then x else y) σ pc L (.int b :: .int a :: st) := by
  obtain ⟨⟨p, l, e, R, s, m, args, below, meth, c⟩, Q, A, H0, ⟨nL, nc, ns⟩, emb, r0⟩ := κ
  obtain ⟨hx, hb, hml, hown, hts, hK, hA, hcs, hR, hNw⟩ := hk
  subst hq
  exact fun hx0 H locs ls hl hP hD hS => lv_icmp_ge hx hb d ht (fun h => k1 (by rw [if_pos h] at hx0; exact hx0) H locs ls hl hP hD hS) (fun h => k2 (by rw [if_neg h] at hx0; exact hx0) H locs ls hl hP hD hS)
theorem vv_if_ge {κ : KT Ψ α} {x y : Option α} {σ : Ψ} {a : Int32} {off : Int} [Decidable (0 ≤ a)] (t q : Nat) (hk : KO G κ cc own lv) (d : decode cc pc = .ok (.ifCond .ge off, 3)) (ht : (pc : Int) + off = (t : Int)) (hq : pc + 3 = q) (k1 : VV G κ x σ t L st) (k2 : VV G κ y σ q L st) : VV G κ (if 0 ≤ a then x else y) σ pc L (.int a :: st) := by
  obtain ⟨⟨p, l, e, R, s, m, args, below, meth, c⟩, Q, A, H0, ⟨nL, nc, ns⟩, emb, r0⟩ := κ
  obtain ⟨hx, hb, hml, hown, hts, hK, hA, hcs, hR, hNw⟩ := hk
  subst hq
  exact fun hx0 H locs ls hl hP hD hS => lv_if_ge hx hb d ht (fun h => k1 (by rw [if_pos h] at hx0; exact hx0) H locs ls hl hP hD hS) (fun h => k2 (by rw [if_neg h] at hx0; exact hx0) H locs ls hl hP hD hS)
theorem vv_icmp_gt {κ : KT Ψ α} {x y : Option α} {σ : Ψ} {a b : Int32} {off : Int} [Decidable (b < a)] (t q : Nat) (hk : KO G κ cc own lv) (d : decode cc pc = .ok (.if_icmp .gt off, 3)) (ht : (pc : Int) + off = (t : Int)) (hq : pc + 3 = q) (k1 : VV G κ x σ t L st) (k2 : VV G κ y σ q L st) : VV G κ (if b < a then x else y) σ pc L (.int b :: .int a :: st) := by
  obtain ⟨⟨p, l, e, R, s, m, args, below, meth, c⟩, Q, A, H0, ⟨nL, nc, ns⟩, emb, r0⟩ := κ
  obtain ⟨hx, hb, hml, hown, hts, hK, hA, hcs, hR, hNw⟩ := hk
  subst hq
  exact fun hx0 H locs ls hl hP hD hS => lv_icmp_gt hx hb d ht (fun h => k1 (by rw [if_pos h] at hx0; exact hx0) H locs ls hl hP hD hS) (fun h => k2 (by rw [if_neg h] at hx0; exact hx0) H locs ls hl hP hD hS)
theorem vv_if_gt {κ : KT Ψ α} {x y : Option α} {σ : Ψ} {a : Int32} {off : Int} [Decidable (0 < a)] (t q : Nat) (hk : KO G κ cc own lv) (d : decode cc pc = .ok (.ifCond .gt off, 3)) (ht : (pc : Int) + off = (t : Int)) (hq : pc + 3 = q) (k1 : VV G κ x σ t L st) (k2 : VV G κ y σ q L st) : VV G κ (if 0 < a then x else y) σ pc L (.int a :: st) := by
  obtain ⟨⟨p, l, e, R, s, m, args, below, meth, c⟩, Q, A, H0, ⟨nL, nc, ns⟩, emb, r0⟩ := κ
  obtain ⟨hx, hb, hml, hown, hts, hK, hA, hcs, hR, hNw⟩ := hk
  subst hq
  exact fun hx0 H locs ls hl hP hD hS => lv_if_gt hx hb d ht (fun h => k1 (by rw [if_pos h] at hx0; exact hx0) H locs ls hl hP hD hS) (fun h => k2 (by rw [if_neg h] at hx0; exact hx0) H locs ls hl hP hD hS)
theorem vv_icmp_le {κ : KT Ψ α} {x y : Option α} {σ : Ψ} {a b : Int32} {off : Int} [Decidable (a ≤ b)] (t q : Nat) (hk : KO G κ cc own lv) (d : decode cc pc = .ok (.if_icmp .le off, 3)) (ht : (pc : Int) + off = (t : Int)) (hq : pc + 3 = q) (k1 : VV G κ x σ t L st) (k2 : VV G κ y σ q L st) : VV G κ (if a ≤ b then x else y) σ pc L (.int b :: .int a :: st) := by
  obtain ⟨⟨p, l, e, R, s, m, args, below, meth, c⟩, Q, A, H0, ⟨nL, nc, ns⟩, emb, r0⟩ := κ
  obtain ⟨hx, hb, hml, hown, hts, hK, hA, hcs, hR, hNw⟩ := hk
  subst hq
  exact fun hx0 H locs ls hl hP hD hS => lv_icmp_le hx hb d ht (fun h => k1 (by rw [if_pos h] at hx0; exact hx0) H locs ls hl hP hD hS) (fun h => k2 (by rw [if_neg h] at hx0; exact hx0) H locs ls hl hP hD hS)
theorem vv_if_le {κ : KT Ψ α} {x y : Option α} {σ : Ψ} {a : Int32} {off : Int} [Decidable (a ≤ 0)] (t q : Nat) (hk : KO G κ cc own lv) (d : decode cc pc = .ok (.ifCond .le off, 3)) (ht : (pc : Int) + off = (t : Int)) (hq : pc + 3 = q) (k1 : VV G κ x σ t L st) (k2 : VV G κ y σ q L st) : VV G κ (if a ≤ 0 then x else y) σ pc L (.int a :: st) := by
  obtain ⟨⟨p, l, e, R, s, m, args, below, meth, c⟩, Q, A, H0, ⟨nL, nc, ns⟩, emb, r0⟩ := κ
  obtain ⟨hx, hb, hml, hown, hts, hK, hA, hcs, hR, hNw⟩ := hk
  subst hq
  exact fun hx0 H locs ls hl hP hD hS => lv_if_le hx hb d ht (fun h => k1 (by rw [if_pos h] at hx0; exact hx0) H locs ls hl hP hD hS) (fun h => k2 (by rw [if_neg h] at hx0; exact hx0) H locs ls hl hP hD hS)
theorem vv_jn {κ : KT Ψ α} {A : β → Option α} {F : (β → Option α) → Option α} {σ0 : Ψ} (g : β → Ψ × Nat × List (Option Value) × List Value) (hA : ∀ t, VV G κ (A t) (g t).1 (g t).2.1 (g t).2.2.1 (g t).2.2.2) (hF : ∀ k : β → Option α, (∀ t, VV G κ (k t) (g t).1 (g t).2.1 (g t).2.2.1 (g t).2.2.2) → VV G κ (F k) σ0 pc L st) : VV G κ (jn A F) σ0 pc L st := hF A hA
theorem vv_lp {κ : KT Ψ α} {F : (β → Option α) → β → Option α} (g : β → Ψ × Nat × List (Option Value) × List Value) (hF : ∀ k : β → Option α, (∀ t, VV G κ (k t) (g t).1 (g t).2.1 (g t).2.2.1 (g t).2.2.2) → ∀ t, VV G κ (F k t) (g t).1 (g t).2.1 (g t).2.2.1 (g t).2.2.2) : ∀ (n : Nat) (t : β), VV G κ (lp F n t) (g t).1 (g t).2.1 (g t).2.2.1 (g t).2.2.2
  | 0, t => vv_none
  | n + 1, t => hF (lp F n) (fun t' => vv_lp g hF n t') t
/-- a switch: told apart ahead of the instruction -/
theorem vv_case {κ : KT Ψ α} {x y : Option α} {σ : Ψ} {a b : Int32} [Decidable (a = b)] (k1 : a = b → VV G κ x σ pc L st) (k2 : ¬ a = b → VV G κ y σ pc L st) : VV G κ (if a = b then x else y) σ pc L st := by
  by_cases h : a = b
  · rw [if_pos h]; exact k1 h
  · rw [if_neg h]; exact k2 h
theorem vv_tabIn {κ : KT Ψ α} {x : Option α} {σ : Ψ} {dflt lo hi : Int} {offs : Array Int} {len : Nat} {a : Int32} {off : Int} (t : Nat) (hk : KO G κ cc own lv) (d : decode cc pc = .ok (.tableswitch dflt lo hi offs, len)) (h1 : ¬ a.toInt < lo) (h2 : ¬ hi < a.toInt) (ho : offs[(a.toInt - lo).toNat]? = some off) (ht : (pc : Int) + off = (t : Int)) (k : VV G κ x σ t L st) : VV G κ x σ pc L (.int a :: st) := by
  obtain ⟨⟨p, l, e, R, s, m, args, below, meth, c⟩, Q, A, H0, ⟨nL, nc, ns⟩, emb, r0⟩ := κ
  obtain ⟨hx, hb, hml, hown, hts, hK, hA, hcs, hR, hNw⟩ := hk
  exact fun hx0 H locs ls hl hP hD hS => lv_tableIn hx hb d h1 h2 ho ht (k hx0 H locs ls hl hP hD hS)
theorem vv_tabOut {κ : KT Ψ α} {x : Option α} {σ : Ψ} {dflt lo hi : Int} {offs : Array Int} {len : Nat} {a : Int32} (t : Nat) (hk : KO G κ cc own lv) (d : decode cc pc = .ok (.tableswitch dflt lo hi offs, len)) (h : a.toInt < lo ∨ hi < a.toInt) (ht : (pc : Int) + dflt = (t : Int)) (k : VV G κ x σ t L st) : VV G κ x σ pc L (.int a :: st) := by
  obtain ⟨⟨p, l, e, R, s, m, args, below, meth, c⟩, Q, A, H0, ⟨nL, nc, ns⟩, emb, r0⟩ := κ
  obtain ⟨hx, hb, hml, hown, hts, hK, hA, hcs, hR, hNw⟩ := hk
  exact fun hx0 H locs ls hl hP hD hS => lv_tableOut hx hb d h ht (k hx0 H locs ls hl hP hD hS)
theorem vv_look {κ : KT Ψ α} {x : Option α} {σ : Ψ} {dflt : Int} {ps : Array (Int × Int)} {len : Nat} {a : Int32} {off : Int} (t : Nat) (hk : KO G κ cc own lv) (d : decode cc pc = .ok (.lookupswitch dflt ps, len)) (hp : (ps.toList.zip (ps.toList.drop 1)).all (fun (a, next) => a.1 < next.1) = true) (ho : Op.lookupswitch.offset ps.toList dflt a.toInt = off) (ht : (pc : Int) + off = (t : Int)) (k : VV G κ x σ t L st) : VV G κ x σ pc L (.int a :: st) := by
  obtain ⟨⟨p, l, e, R, s, m, args, below, meth, c⟩, Q, A, H0, ⟨nL, nc, ns⟩, emb, r0⟩ := κ
  obtain ⟨hx, hb, hml, hown, hts, hK, hA, hcs, hR, hNw⟩ := hk
  exact fun hx0 H locs ls hl hP hD hS => lv_lookup hx hb d hp ho ht (k hx0 H locs ls hl hP hD hS)
end VVR
/-! ===== rows over the heap ===== -/
def CI (ci : Nat) (C : String) (T : u_T) (N : Nat) (ty : Nat → FieldType) : Prop := classes[ci]? = some (C, T, N) ∧ (∀ w ∈ u_ws C T N, w ∈ WT) ∧ (∀ k, k < N → parseFieldDescriptor (T k).2.2.1 = some (ty k)) ∧ (∀ a, a < N → ∀ b, b < N → a ≠ b → (T a).2.1 ≠ (T b).2.1)
theorem in_of {i : Int32} {n : Nat} (h : ¬ (i < 0 ∨ n ≤ i.toNatClampNeg)) : vp_in i n := h
theorem narB {v : Int32} (h : v = 0 ∨ v = 1) : narrow .boolean (.int v) = .int v := by
  rcases h with rfl | rfl <;> decide
section VVH
variable {α β ρ : Type} {G : GT} {cc : ByteArray} {own : String} {lv pc : Nat} {L L' : List (Option Value)} {st : List Value} {κ : KT Hp α} {σ : Hp} {b : Bool}
theorem vv_getI {x : Option α} {k j ci ix N : Nat} {fs : List (Option Nat)} {C : String} {T : u_T} {ty : Nat → FieldType} (q : Nat) (hk : KO G κ cc own lv) (he : KE b κ) (d : decode cc pc = .ok (.getfield ix, 3)) (hq : pc + 3 = q) (ho : LAY[k]? = some (.inl (ci, fs))) (hf : fs[j]? = some none) (hc : CI ci C T N ty) (hj : Nat.blt j N = true) (hl : Cond.fieldLink own ix (T j).1 (T j).2.1 (T j).2.2.1 ∈ WT) (hs : decide (k < NC) = b) (kk : VV G κ x σ q L (.int (σ.1 k j) :: st)) : VV G κ x σ pc L (rf G k :: st) := by
  obtain ⟨⟨p, l, e, R, s, m, args, below, meth, c⟩, Q, A, H0, ⟨nL, nc, ns⟩, emb, r0⟩ := κ
  obtain ⟨hx, hb, hml, hown, hts, hK, hA, hcs, hR, hNw⟩ := hk
  subst hq
  obtain ⟨τ, he⟩ := he
  dsimp only at he
  subst he
  have hj : j < N := Nat.le_of_ble_eq_true hj
  intro hx0 H locs ls h hP hD hS
  refine va_get (D := G.1) (cl := classes) (v := .int (σ.1 k j)) hx hb hts hc.2.1 hown hK hP k (ws_get G _ ho) hc.1 j hj (hts _ hl) (fun _ h9 => h9) ?_ d (kk hx0 H locs ls h hP hD hS)
  rw [fsV_get G _ fs 0 j none hf, eb_1 hs, Nat.zero_add]
theorem vv_getR {x : Option α} {k j r ci ix N : Nat} {fs : List (Option Nat)} {C : String} {T : u_T} {ty : Nat → FieldType} (q : Nat) (hk : KO G κ cc own lv) (d : decode cc pc = .ok (.getfield ix, 3)) (hq : pc + 3 = q) (ho : LAY[k]? = some (.inl (ci, fs))) (hf : fs[j]? = some (some r)) (hc : CI ci C T N ty) (hj : Nat.blt j N = true) (hl : Cond.fieldLink own ix (T j).1 (T j).2.1 (T j).2.2.1 ∈ WT) (kk : VV G κ x σ q L (rf G r :: st)) : VV G κ x σ pc L (rf G k :: st) := by
  obtain ⟨⟨p, l, e, R, s, m, args, below, meth, c⟩, Q, A, H0, ⟨nL, nc, ns⟩, emb, r0⟩ := κ
  obtain ⟨hx, hb, hml, hown, hts, hK, hA, hcs, hR, hNw⟩ := hk
  subst hq
  have hj : j < N := Nat.le_of_ble_eq_true hj
  intro hx0 H locs ls h hP hD hS
  refine va_get (D := G.1) (cl := classes) (v := rf G r) hx hb hts hc.2.1 hown hK hP k (ws_get G _ ho) hc.1 j hj (hts _ hl) (fun _ h9 => h9) ?_ d (kk hx0 H locs ls h hP hD hS)
  rw [fsV_get G _ fs 0 j (some r) hf]
theorem vv_putI {f : Hp → Option α} {k j ci ix N : Nat} {fs : List (Option Nat)} {C : String} {T : u_T} {ty : Nat → FieldType} {v : Int32} (q : Nat) (hk : KO G κ cc own lv) (he : KE b κ) (d : decode cc pc = .ok (.putfield ix, 3)) (hq : pc + 3 = q) (ho : LAY[k]? = some (.inl (ci, fs))) (hf : fs[j]? = some none) (hc : CI ci C T N ty) (hj : Nat.blt j N = true) (hl : Cond.fieldLink own ix (T j).1 (T j).2.1 (T j).2.2.1 ∈ WT) (hs : decide (k < NC) = b) (hfin : (T j).2.2.2 = false) (hty : ty j = .int) (kk : ∀ σ', VV G κ (f σ') σ' q L st) : VV G κ (lt (sI σ k j v) f) σ pc L (.int v :: rf G k :: st) := by
  obtain ⟨⟨p, l, e, R, s, m, args, below, meth, c⟩, Q, A, H0, ⟨nL, nc, ns⟩, emb, r0⟩ := κ
  obtain ⟨hx, hb, hml, hown, hts, hK, hA, hcs, hR, hNw⟩ := hk
  subst hq
  obtain ⟨τ, he⟩ := he
  dsimp only at he
  subst he
  have hj : j < N := Nat.le_of_ble_eq_true hj
  intro hx0 H locs ls h hP hD hS
  have hd : parseFieldDescriptor (T j).2.2.1 = some .int := by rw [hc.2.2.1 j hj, hty]
  refine va_put (D := G.1) (cl := classes) (v := .int v) (ty := .int) hx hb hts hc.2.1 ty hc.2.2.1 hc.2.2.2 hown hK hP hD hS k (ws_get G _ ho) hc.1 j hj (hts _ hl) (fun _ h9 => h9) hfin hd rfl rfl ?_ d (fun H1 locs1 hP1 hD1 hS1 => ?_)
  · rw [fsV_len]; exact (List.getElem?_eq_some_iff.mp hf).1
  · have e1 : (wsG G (eb b τ σ)).set k (G.2.1 k, .inr (ci, (fsV G ((eb b τ σ).1 k) 0 fs).set j (.int v))) = wsG G (eb b τ (sI σ k j v)) := by
      refine ws_set G ho ?_ (fun a ha => ?_) (fun a ha => ?_)
      · unfold sI
        rw [eb_sR hs]
        show (Sum.inr (ci, fsV G (if k = k then upd (σ.1 k) j v else _) 0 fs) : va_E) = _
        rw [if_pos rfl, fsV_set G _ v fs 0 j hf, eb_1 hs, Nat.zero_add]
      · unfold sI
        rw [eb_sR hs]
        show (if a = k then _ else _) = _
        rw [if_neg ha]
      · unfold sI
        rw [eb_sR hs]
        rfl
    rw [e1] at hP1 hD1
    exact kk (sI σ k j v) hx0 H1 locs1 ls h hP1 hD1 hS1
theorem vv_putZ {f : Hp → Option α} {k j ci ix N : Nat} {fs : List (Option Nat)} {C : String} {T : u_T} {ty : Nat → FieldType} {v : Int32} (q : Nat) (hk : KO G κ cc own lv) (he : KE b κ) (d : decode cc pc = .ok (.putfield ix, 3)) (hq : pc + 3 = q) (ho : LAY[k]? = some (.inl (ci, fs))) (hf : fs[j]? = some none) (hc : CI ci C T N ty) (hj : Nat.blt j N = true) (hl : Cond.fieldLink own ix (T j).1 (T j).2.1 (T j).2.2.1 ∈ WT) (hs : decide (k < NC) = b) (hfin : (T j).2.2.2 = false) (hty : ty j = .boolean) (kk : ∀ σ', VV G κ (f σ') σ' q L st) : VV G κ (ckZ v (lt (sI σ k j v) f)) σ pc L (.int v :: rf G k :: st) := by
  obtain ⟨⟨p, l, e, R, s, m, args, below, meth, c⟩, Q, A, H0, ⟨nL, nc, ns⟩, emb, r0⟩ := κ
  obtain ⟨hx, hb, hml, hown, hts, hK, hA, hcs, hR, hNw⟩ := hk
  subst hq
  obtain ⟨τ, he⟩ := he
  dsimp only at he
  subst he
  have hj : j < N := Nat.le_of_ble_eq_true hj
  intro hx0 H locs ls h hP hD hS
  unfold ckZ at hx0
  split at hx0
  case isFalse => cases hx0
  rename_i hv
  have hd : parseFieldDescriptor (T j).2.2.1 = some .boolean := by rw [hc.2.2.1 j hj, hty]
  refine va_put (D := G.1) (cl := classes) (v := .int v) (ty := .boolean) hx hb hts hc.2.1 ty hc.2.2.1 hc.2.2.2 hown hK hP hD hS k (ws_get G _ ho) hc.1 j hj (hts _ hl) (fun _ h9 => h9) hfin hd (narB hv) (by rcases hv with rfl | rfl <;> rfl) ?_ d (fun H1 locs1 hP1 hD1 hS1 => ?_)
  · rw [fsV_len]; exact (List.getElem?_eq_some_iff.mp hf).1
  · have e1 : (wsG G (eb b τ σ)).set k (G.2.1 k, .inr (ci, (fsV G ((eb b τ σ).1 k) 0 fs).set j (.int v))) = wsG G (eb b τ (sI σ k j v)) := by
      refine ws_set G ho ?_ (fun a ha => ?_) (fun a ha => ?_)
      · unfold sI
        rw [eb_sR hs]
        show (Sum.inr (ci, fsV G (if k = k then upd (σ.1 k) j v else _) 0 fs) : va_E) = _
        rw [if_pos rfl, fsV_set G _ v fs 0 j hf, eb_1 hs, Nat.zero_add]
      · unfold sI
        rw [eb_sR hs]
        show (if a = k then _ else _) = _
        rw [if_neg ha]
      · unfold sI
        rw [eb_sR hs]
        rfl
    rw [e1] at hP1 hD1
    exact kk (sI σ k j v) hx0 H1 locs1 ls h hP1 hD1 hS1
theorem vv_iald {f : Int32 → Option α} {k n : Nat} {i : Int32} (q : Nat) (hk : KO G κ cc own lv) (he : KE b κ) (d : decode cc pc = .ok (.iaload, 1)) (hq : pc + 1 = q) (ho : LAY[k]? = some (.inr (0, n))) (hs : decide (k < NC) = b) (kk : ∀ v, VV G κ (f v) σ q L (.int v :: st)) : VV G κ (ldI σ k n i f) σ pc L (.int i :: rf G k :: st) := by
  obtain ⟨⟨p, l, e, R, s, m, args, below, meth, c⟩, Q, A, H0, ⟨nL, nc, ns⟩, emb, r0⟩ := κ
  obtain ⟨hx, hb, hml, hown, hts, hK, hA, hcs, hR, hNw⟩ := hk
  subst hq
  obtain ⟨τ, he⟩ := he
  dsimp only at he
  subst he
  intro hx0 H locs ls h hP hD hS
  unfold ldI at hx0
  split at hx0
  · cases hx0
  · rename_i hin
    refine va_iald (D := G.1) (cl := classes) hx hb hK hP k 0 (f := (eb b τ σ).1 k) (ws_get G _ ho) rfl (in_of hin) d ?_
    rw [eb_1 hs]
    exact kk _ hx0 H locs ls h hP hD hS
theorem vv_zald {f : Int32 → Option α} {k n : Nat} {i : Int32} (q : Nat) (hk : KO G κ cc own lv) (he : KE b κ) (d : decode cc pc = .ok (.baload, 1)) (hq : pc + 1 = q) (ho : LAY[k]? = some (.inr (1, n))) (hs : decide (k < NC) = b) (kk : ∀ v, VV G κ (f v) σ q L (.int v :: st)) : VV G κ (ldI σ k n i f) σ pc L (.int i :: rf G k :: st) := by
  obtain ⟨⟨p, l, e, R, s, m, args, below, meth, c⟩, Q, A, H0, ⟨nL, nc, ns⟩, emb, r0⟩ := κ
  obtain ⟨hx, hb, hml, hown, hts, hK, hA, hcs, hR, hNw⟩ := hk
  subst hq
  obtain ⟨τ, he⟩ := he
  dsimp only at he
  subst he
  intro hx0 H locs ls h hP hD hS
  unfold ldI at hx0
  split at hx0
  · cases hx0
  · rename_i hin
    refine va_zald (D := G.1) (cl := classes) hx hb hK hP k 1 (f := (eb b τ σ).1 k) (ws_get G _ ho) rfl (in_of hin) d ?_
    rw [eb_1 hs]
    exact kk _ hx0 H locs ls h hP hD hS
theorem vv_lald {f : Int64 → Option α} {k n : Nat} {i : Int32} (q : Nat) (hk : KO G κ cc own lv) (he : KE b κ) (d : decode cc pc = .ok (.laload, 1)) (hq : pc + 1 = q) (ho : LAY[k]? = some (.inr (2, n))) (hs : decide (k < NC) = b) (kk : ∀ v, VV G κ (f v) σ q L (.long v :: st)) : VV G κ (ldJ σ k n i f) σ pc L (.int i :: rf G k :: st) := by
  obtain ⟨⟨p, l, e, R, s, m, args, below, meth, c⟩, Q, A, H0, ⟨nL, nc, ns⟩, emb, r0⟩ := κ
  obtain ⟨hx, hb, hml, hown, hts, hK, hA, hcs, hR, hNw⟩ := hk
  subst hq
  obtain ⟨τ, he⟩ := he
  dsimp only at he
  subst he
  intro hx0 H locs ls h hP hD hS
  unfold ldJ at hx0
  split at hx0
  · cases hx0
  · rename_i hin
    refine va_lald (D := G.1) (cl := classes) hx hb hK hP k 2 (f := (eb b τ σ).2 k) (ws_get G _ ho) rfl (in_of hin) d ?_
    rw [eb_2 hs]
    exact kk _ hx0 H locs ls h hP hD hS
theorem vv_iast {f : Hp → Option α} {k n : Nat} {i : Int32} {v : Int32} (q : Nat) (hk : KO G κ cc own lv) (he : KE b κ) (d : decode cc pc = .ok (.iastore, 1)) (hq : pc + 1 = q) (ho : LAY[k]? = some (.inr (0, n))) (hs : decide (k < NC) = b) (kk : ∀ σ', VV G κ (f σ') σ' q L st) : VV G κ (stI σ k n i v f) σ pc L (.int v :: .int i :: rf G k :: st) := by
  obtain ⟨⟨p, l, e, R, s, m, args, below, meth, c⟩, Q, A, H0, ⟨nL, nc, ns⟩, emb, r0⟩ := κ
  obtain ⟨hx, hb, hml, hown, hts, hK, hA, hcs, hR, hNw⟩ := hk
  subst hq
  obtain ⟨τ, he⟩ := he
  dsimp only at he
  subst he
  intro hx0 H locs ls h hP hD hS
  unfold stI at hx0
  split at hx0
  · cases hx0
  · rename_i hin
    refine va_iast (D := G.1) (cl := classes) hx hb hK hP hD hS k 0 (f := (eb b τ σ).1 k) (ws_get G _ ho) rfl (in_of hin) d (fun H1 locs1 hP1 hD1 hS1 => ?_)
    have e1 : (wsG G (eb b τ σ)).set k (G.2.1 k, .inl (G.2.2 0, n, .inl (upd ((eb b τ σ).1 k) i.toNatClampNeg v))) = wsG G (eb b τ (sI σ k i.toNatClampNeg v)) := by
      refine ws_set G ho ?_ (fun a ha => ?_) (fun a ha => ?_)
      · unfold sI
        rw [eb_sR hs]
        show (Sum.inl (G.2.2 0, n, .inl (if k = k then upd (σ.1 k) i.toNatClampNeg v else _)) : va_E) = _
        rw [if_pos rfl, eb_1 hs]
      · unfold sI
        rw [eb_sR hs]
        show (if a = k then _ else _) = _
        rw [if_neg ha]
      · unfold sI
        rw [eb_sR hs]
        rfl
        
    rw [e1] at hP1 hD1
    exact kk _ hx0 H1 locs1 ls h hP1 hD1 hS1
theorem vv_zast {f : Hp → Option α} {k n : Nat} {i : Int32} {v : Int32} (q : Nat) (hk : KO G κ cc own lv) (he : KE b κ) (d : decode cc pc = .ok (.bastore, 1)) (hq : pc + 1 = q) (ho : LAY[k]? = some (.inr (1, n))) (hs : decide (k < NC) = b) (kk : ∀ σ', VV G κ (f σ') σ' q L st) : VV G κ (stZ σ k n i v f) σ pc L (.int v :: .int i :: rf G k :: st) := by
  obtain ⟨⟨p, l, e, R, s, m, args, below, meth, c⟩, Q, A, H0, ⟨nL, nc, ns⟩, emb, r0⟩ := κ
  obtain ⟨hx, hb, hml, hown, hts, hK, hA, hcs, hR, hNw⟩ := hk
  subst hq
  obtain ⟨τ, he⟩ := he
  dsimp only at he
  subst he
  intro hx0 H locs ls h hP hD hS
  unfold stZ at hx0
  split at hx0
  · cases hx0
  · rename_i hin
    refine va_zast (D := G.1) (cl := classes) hx hb hK hP hD hS k 1 (f := (eb b τ σ).1 k) (ws_get G _ ho) rfl (in_of hin) d (fun H1 locs1 hP1 hD1 hS1 => ?_)
    have e1 : (wsG G (eb b τ σ)).set k (G.2.1 k, .inl (G.2.2 1, n, .inl (upd ((eb b τ σ).1 k) i.toNatClampNeg (vp_nar .boolean v)))) = wsG G (eb b τ (sI σ k i.toNatClampNeg (vp_nar .boolean v))) := by
      refine ws_set G ho ?_ (fun a ha => ?_) (fun a ha => ?_)
      · unfold sI
        rw [eb_sR hs]
        show (Sum.inl (G.2.2 1, n, .inl (if k = k then upd (σ.1 k) i.toNatClampNeg (vp_nar .boolean v) else _)) : va_E) = _
        rw [if_pos rfl, eb_1 hs]
      · unfold sI
        rw [eb_sR hs]
        show (if a = k then _ else _) = _
        rw [if_neg ha]
      · unfold sI
        rw [eb_sR hs]
        rfl
        
    rw [e1] at hP1 hD1
    exact kk _ hx0 H1 locs1 ls h hP1 hD1 hS1
theorem vv_last {f : Hp → Option α} {k n : Nat} {i : Int32} {v : Int64} (q : Nat) (hk : KO G κ cc own lv) (he : KE b κ) (d : decode cc pc = .ok (.lastore, 1)) (hq : pc + 1 = q) (ho : LAY[k]? = some (.inr (2, n))) (hs : decide (k < NC) = b) (kk : ∀ σ', VV G κ (f σ') σ' q L st) : VV G κ (stJ σ k n i v f) σ pc L (.long v :: .int i :: rf G k :: st) := by
  obtain ⟨⟨p, l, e, R, s, m, args, below, meth, c⟩, Q, A, H0, ⟨nL, nc, ns⟩, emb, r0⟩ := κ
  obtain ⟨hx, hb, hml, hown, hts, hK, hA, hcs, hR, hNw⟩ := hk
  subst hq
  obtain ⟨τ, he⟩ := he
  dsimp only at he
  subst he
  intro hx0 H locs ls h hP hD hS
  unfold stJ at hx0
  split at hx0
  · cases hx0
  · rename_i hin
    refine va_last (D := G.1) (cl := classes) hx hb hK hP hD hS k 2 (f := (eb b τ σ).2 k) (ws_get G _ ho) rfl (in_of hin) d (fun H1 locs1 hP1 hD1 hS1 => ?_)
    have e1 : (wsG G (eb b τ σ)).set k (G.2.1 k, .inl (G.2.2 2, n, .inr (.inl (vp_updL ((eb b τ σ).2 k) i.toNatClampNeg v)))) = wsG G (eb b τ (sJ σ k i.toNatClampNeg v)) := by
      refine ws_set G ho ?_ (fun a ha => ?_) (fun a ha => ?_)
      · unfold sJ
        rw [eb_sL hs]
        show (Sum.inl (G.2.2 2, n, .inr (.inl (if k = k then vp_updL (σ.2 k) i.toNatClampNeg v else _))) : va_E) = _
        rw [if_pos rfl, eb_2 hs]
      · unfold sJ
        rw [eb_sL hs]
        rfl
        
      · unfold sJ
        rw [eb_sL hs]
        show (if a = k then _ else _) = _
        rw [if_neg ha]
    rw [e1] at hP1 hD1
    exact kk _ hx0 H1 locs1 ls h hP1 hD1 hS1
theorem vv_aald {f : Nat → Option α} {k n : Nat} {i : Int32} (q : Nat) (hk : KO G κ cc own lv) (d : decode cc pc = .ok (.aaload, 1)) (hq : pc + 1 = q) (ho : LAY[k]? = some (.inr (3, n))) (P : Nat → Prop) (hP9 : ∀ j, j < n → P (k + 1 + j)) (kk : ∀ r, P r → VV G κ (f r) σ q L (rf G r :: st)) : VV G κ (ldA k n i f) σ pc L (.int i :: rf G k :: st) := by
  obtain ⟨⟨p, l, e, R, s, m, args, below, meth, c⟩, Q, A, H0, ⟨nL, nc, ns⟩, emb, r0⟩ := κ
  obtain ⟨hx, hb, hml, hown, hts, hK, hA, hcs, hR, hNw⟩ := hk
  subst hq
  intro hx0 H locs ls h hP hD hS
  unfold ldA at hx0
  split at hx0
  · cases hx0
  · rename_i hin
    have hlt : i.toNatClampNeg < n := Nat.not_le.mp fun z => hin (Or.inr z)
    refine W.aald (v := rf G (k + 1 + i.toNatClampNeg)) (ty := .array .int) hx hb (hP k _ (ws_get G _ ho)) ((hK.2 3 _ rfl).1 n (fun j => va_rf (some (G.2.1 (k + 1 + j))))) rfl (fun z => by cases z) (by show ¬ (i < 0 ∨ (arrV _ _ _).slots.size ≤ _); rw [arrV_size]; exact hin) (by show (arrV _ _ _).slots[_]? = _; rw [arrV_read _ _ hlt]; rfl) rfl rfl d ?_
    exact kk _ (hP9 _ hlt) hx0 H locs ls h hP hD hS
theorem vv_alen {x : Option α} {k n t : Nat} {v : Int32} (q : Nat) (hk : KO G κ cc own lv) (d : decode cc pc = .ok (.arraylength, 1)) (hq : pc + 1 = q) (ho : LAY[k]? = some (.inr (t, n))) (ht : Nat.ble t 2 = true) (hv : Int32.ofNat n = v) (kk : VV G κ x σ q L (.int v :: st)) : VV G κ x σ pc L (rf G k :: st) := by
  obtain ⟨⟨p, l, e, R, s, m, args, below, meth, c⟩, Q, A, H0, ⟨nL, nc, ns⟩, emb, r0⟩ := κ
  obtain ⟨hx, hb, hml, hown, hts, hK, hA, hcs, hR, hNw⟩ := hk
  subst hq
  intro hx0 H locs ls h hP hD hS
  match t, ht, ho with
  | 0, _, ho => exact va_alen (D := G.1) (cl := classes) hx hb hK hP k 0 (ws_get G _ ho) rfl hv d (kk hx0 H locs ls h hP hD hS)
  | 1, _, ho => exact va_alen (D := G.1) (cl := classes) hx hb hK hP k 1 (ws_get G _ ho) rfl hv d (kk hx0 H locs ls h hP hD hS)
  | 2, _, ho => exact va_alen (D := G.1) (cl := classes) hx hb hK hP k 2 (ws_get G _ ho) rfl hv d (kk hx0 H locs ls h hP hD hS)
theorem vv_copy {f : Hp → Option α} {ks kd ns nd ix : Nat} {sp dp n : Int32} (q : Nat) (hk : KO G κ cc own lv) (he : KE b κ) (d : decode cc pc = .ok (.invokestatic ix, 3)) (hq : pc + 3 = q) (hl : Cond.methodLink own ix arraycopyName ∈ WT) (h1 : LAY[ks]? = some (.inr (0, ns))) (h2 : LAY[kd]? = some (.inr (0, nd))) (hs1 : decide (ks < NC) = b) (hs2 : decide (kd < NC) = b) (hst : (st.map fun v => v.category).sum ≤ 8) (kk : ∀ σ', VV G κ (f σ') σ' q L st) : VV G κ (cpI σ ks ns kd nd sp dp n f) σ pc L (.int n :: .int dp :: rf G kd :: .int sp :: rf G ks :: st) := by
  obtain ⟨⟨p, l, e, R, s, m, args, below, meth, c⟩, Q, A, H0, ⟨nL, nc, ns⟩, emb, r0⟩ := κ
  obtain ⟨hx, hb, hml, hown, hts, hK, hA, hcs, hR, hNw⟩ := hk
  subst hq
  obtain ⟨τ, he⟩ := he
  dsimp only at he
  subst he
  intro hx0 H locs ls h hP hD hS
  unfold cpI at hx0
  split at hx0
  · cases hx0
  rename_i hn
  simp only [not_or, Nat.not_lt] at hn
  obtain ⟨a1, a2, a3, a4, a5⟩ := hn
  refine va_copyi (D := G.1) (cl := classes) hx hb (hml.trans h.1.symm) hown (hts _ hl) (hts _ cw_nat) (hts _ cw_sta) (hts _ cw_ini) hK hP hD hS ks kd 0 0 (f := (eb b τ σ).1 ks) (g := (eb b τ σ).1 kd) (ws_get G _ h1) (ws_get G _ h2) rfl rfl rfl a1 a2 a3 a4 a5 (fun i hi => rfl) (by omega) ?_ d (fun H1 locs1 hP1 hD1 hS1 => ?_)
  · have : nativeFrameWords "java/lang/System" "arraycopy" 5 ≤ 21 := by decide +kernel
    omega
  · have e1 : (wsG G (eb b τ σ)).set kd (G.2.1 kd, .inl (G.2.2 0, nd, .inl (va_cpy ((eb b τ σ).1 ks) ((eb b τ σ).1 kd) sp.toNatClampNeg dp.toNatClampNeg n.toNatClampNeg))) = wsG G (eb b τ (sR σ kd (va_cpy (σ.1 ks) (σ.1 kd) sp.toNatClampNeg dp.toNatClampNeg n.toNatClampNeg))) := by
      refine ws_set G h2 ?_ (fun a ha => ?_) (fun a ha => ?_)
      · rw [eb_sR hs2]
        show (Sum.inl (G.2.2 0, nd, .inl (if kd = kd then _ else _)) : va_E) = _
        rw [if_pos rfl, eb_1 hs1, eb_1 hs2]
      · rw [eb_sR hs2]
        show (if a = kd then _ else _) = _
        rw [if_neg ha]
      · rw [eb_sR hs2]
        rfl
    rw [e1] at hP1 hD1
    exact kk _ hx0 H1 locs1 ls h hP1 hD1 hS1
end VVH
