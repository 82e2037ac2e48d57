/-! ===== contracts ===== -/
abbrev rmL (lv : Nat) : Room := { frames := lv + 1, cells := 0, slots := 0, locals := 40 * (lv + 1) }
def PreW (G : GT) (ω : Hp) (sz : Nat) (U : State) : Prop := U.heap.size = sz ∧ va_P G.1 classes (wsG G ω) U.heap ∧ va_K G.1 classes (tysG G) U ∧ va_D (fun _ => True) (wsG G ω) ∧ va_Nw nestW U
def PostW (G : GT) (ω ω' : Hp) (sz : Nat) (t : State) : Prop := va_P G.1 classes (wsG G ω') t.heap ∧ va_K G.1 classes (tysG G) t ∧ va_D (va_A (wsG G ω) sz) (wsG G ω')
def CtI (G : GT) (b : Bool) (y : MethodName) (bytes : ByteArray) (maxL : Nat) (ret : Option FieldType) (lv : Nat) (av : List Value) (x : Option (Int32 × Hp)) (σ : Hp) : Prop :=
  ∀ (l : Launch) (τ : Hp) (sz : Nat) (r : Int32) (σ' : Hp), x = some (r, σ') → Met l y (Cond.code y bytes maxL ret :: WT) (rmL lv) (va_Pc av (PreW G (eb b τ σ) sz)) (va_Qi (fun r0 (u : Hp) => r0 = r ∧ u = σ') (fun u t => PostW G (eb b τ σ) (eb b τ u) sz t) (va_A (wsG G (eb b τ σ)) sz)) 0 0 (va_A (wsG G (eb b τ σ)) sz)
def CtJ (G : GT) (b : Bool) (y : MethodName) (bytes : ByteArray) (maxL : Nat) (ret : Option FieldType) (lv : Nat) (av : List Value) (x : Option (Int64 × Hp)) (σ : Hp) : Prop :=
  ∀ (l : Launch) (τ : Hp) (sz : Nat) (r : Int64) (σ' : Hp), x = some (r, σ') → Met l y (Cond.code y bytes maxL ret :: WT) (rmL lv) (va_Pc av (PreW G (eb b τ σ) sz)) (va_Ql (fun r0 (u : Hp) => r0 = r ∧ u = σ') (fun u t => PostW G (eb b τ σ) (eb b τ u) sz t) (va_A (wsG G (eb b τ σ)) sz)) 0 0 (va_A (wsG G (eb b τ σ)) sz)
def CtV (G : GT) (b : Bool) (y : MethodName) (bytes : ByteArray) (maxL : Nat) (ret : Option FieldType) (lv : Nat) (av : List Value) (x : Option Hp) (σ : Hp) : Prop :=
  ∀ (l : Launch) (τ : Hp) (sz : Nat) (σ' : Hp), x = some σ' → Met l y (Cond.code y bytes maxL ret :: WT) (rmL lv) (va_Pc av (PreW G (eb b τ σ) sz)) (va_Qv (fun (u : Hp) => u = σ') (fun u t => PostW G (eb b τ σ) (eb b τ u) sz t) (va_A (wsG G (eb b τ σ)) sz)) 0 0 (va_A (wsG G (eb b τ σ)) sz)
def rdI (x : Option Int32) (σ : Hp) : Option (Int32 × Hp) := x.map fun r => (r, σ)
def rdJ (x : Option Int64) (σ : Hp) : Option (Int64 × Hp) := x.map fun r => (r, σ)
theorem PreW.blind {G : GT} {ω : Hp} {sz : Nat} {av : List Value} : FrameBlind (va_Pc av (PreW G ω sz)) := fun a U g mk q => ⟨q.1, q.2.1, q.2.2.1, va_K.moved (u := U) (U := U.calling g mk a) (Vm.Alike.refl U.vm) q.2.2.2.1, q.2.2.2.2.1, va_Nw.same rfl rfl q.2.2.2.2.2⟩
theorem va_D_same {A : Nat → Prop} {w1 w2 : va_W} (h : va_D A w1) (e : w2.map (·.1) = w1.map (·.1)) : va_D A w2 := by
  have key : ∀ (k : Nat) (q : Nat × va_E), w2[k]? = some q → ∃ q', w1[k]? = some q' ∧ q'.1 = q.1 := fun k q hk => by
    have h1 : (w2.map (·.1))[k]? = some q.1 := by rw [List.getElem?_map, hk]; rfl
    rw [e, List.getElem?_map] at h1
    cases hq : w1[k]? with
    | none => rw [hq] at h1; cases h1
    | some q' => rw [hq] at h1; exact ⟨q', rfl, Option.some.inj h1⟩
  refine ⟨fun i j p q hi hj hpq => ?_, fun k q hk => ?_⟩
  · obtain ⟨p', h1, e1⟩ := key i p hi
    obtain ⟨q', h2, e2⟩ := key j q hj
    exact h.1 i j p' q' h1 h2 (by rw [e1, e2, hpq])
  · obtain ⟨q', h1, e1⟩ := key k q hk
    rw [← e1]; exact h.2 k q' h1
theorem ws_ads (G : GT) (ω ω' : Hp) : (wsG G ω).map (·.1) = (wsG G ω').map (·.1) := by
  apply List.ext_getElem?
  intro i
  simp only [wsG, List.getElem?_map, List.getElem?_mapIdx]
  cases LAY[i]? <;> rfl
def enL : List Value → Nat → List (Option Value)
  | [], n => List.replicate n none
  | v :: vs, n => match v.category with
    | 2 => some v :: none :: enL vs (n - 2)
    | _ => some v :: enL vs (n - 1)
theorem enL_in : ∀ (vs : List Value) (n i0 j : Nat) (v : Value), (enL vs n)[j]? = some (some v) → (i0 + j, v) ∈ lv_args i0 vs
  | [], n, i0, j, v, h => by
    simp only [enL, List.getElem?_replicate] at h
    split at h <;> simp at h
  | w :: vs, n, i0, j, v, h => by
    unfold enL at h
    unfold lv_args
    rcases lv_cat w with hc | hc
    · rw [hc] at h
      rw [if_neg (by omega)]
      match j, h with
      | 0, h => simp at h; subst h; exact List.mem_cons_self
      | j + 1, h =>
        have := enL_in vs (n - 1) (i0 + 1) j v (by simpa using h)
        rw [show i0 + (j + 1) = i0 + 1 + j by omega]
        exact List.mem_cons_of_mem _ this
    · rw [hc] at h
      rw [if_pos hc]
      match j, h with
      | 0, h => simp at h; subst h; exact List.mem_cons_self
      | 1, h => simp at h
      | j + 2, h =>
        have := enL_in vs (n - 2) (i0 + 2) j v (by simpa using h)
        rw [show i0 + (j + 2) = i0 + 2 + j by omega]
        exact List.mem_cons_of_mem _ this
section START
variable {G : GT} {b : Bool} {y : MethodName} {bytes : ByteArray} {maxL lv : Nat} {ret : Option FieldType} {av : List Value} {σ : Hp} {L0 : List (Option Value)}
theorem ctI {x : Option (Int32 × Hp)} (hy : plainName y.cls = true) (hret : ret = some .int) (hen : enL av maxL = L0) (hlen : (L0.length, Nat.ble (lg_sl av).length maxL) = (maxL, true)) (body : ∀ κ : KT Hp (Int32 × Hp), KO G κ bytes y.cls lv → KE b κ → (∀ (v : Int32) (σ1 : Hp) (pc : Nat) (L : List (Option Value)), decode bytes pc = .ok (.ireturn, 1) → VV G κ (some (v, σ1)) σ1 pc L [.int v]) → VV G κ x σ 0 L0 []) : CtI G b y bytes maxL ret lv av (x) σ := by
  subst hret
  intro l τ sz r σ' hx
  have hxs := hx
  refine Met.ofW (cc := bytes) (maxL := maxL) hy rfl ?_
  intro p e s m args below meth c s₁ B hml hv
  obtain ⟨rfl, hsz, hP, hK, hD0, hNw⟩ := hv
  have hx := B.exec
  have hb := B.bytes
  have hr := B.returns
  have hts : ∀ w ∈ WT, w.before av.toArray s = true := fun w hw => atoms_spec (ws := Cond.code y bytes maxL (some .int) :: WT) B.pre w (List.mem_cons_of_mem _ hw)
  have hown : s.vm.findClass y.cls = some m.cls := findClass_of_methodNamed B.named
  have hlocks := B.notSynchronized
  subst hsz
  have hl := lv_entry av (n := maxL) (Nat.le_of_ble_eq_true (Prod.mk.inj hlen).2)
  rw [lg_entry_eq]
  generalize (lg_sl av ++ List.replicate (maxL - (lg_sl av).length) Slot.unset).toArray = ls at hl ⊢
  have hl' : lvL ls maxL L0 := ⟨hl.1, (Prod.mk.inj hlen).1, hl.2.1, fun i v hi => hl.2.2 (i, v) (by
    rw [← hen] at hi
    have h9 := enL_in av maxL 0 i v hi
    rwa [Nat.zero_add] at h9)⟩
  have hbody := body ((p, l, e, rmL lv, s, m, av.toArray, below, meth, c), MQ below (va_Qi (fun r0 (u : Hp) => r0 = r ∧ u = σ') (fun u t => PostW G (eb b τ σ) (eb b τ u) s.heap.size t) (va_A (wsG G (eb b τ σ)) s.heap.size)) av.toArray s 0 0 (va_A (wsG G (eb b τ σ)) s.heap.size), va_A (wsG G (eb b τ σ)) s.heap.size, s.heap, (maxL, 0, 0), eb b τ, (r, σ')) ⟨hx, hb, hml, hown, hts, hK, fun q hq => Or.inr hq, ⟨Nat.zero_le _, Nat.zero_le _⟩, ⟨Nat.le_refl _, Nat.le_refl _⟩, hNw⟩ ⟨τ, rfl⟩ ?_ hxs s.heap [] ls hl' hP hD0.self va_S.rf
  · exact hbody
  · intro v σ1 pc L hd hx0 H locs ls1 hl1 hP1 hD1 hS1
    have e9 := Option.some.inj hx0
    have e1 : v = r := congrArg Prod.fst e9
    have e2 : σ1 = σ' := congrArg Prod.snd e9
    exact W.iret hx hb hr (fun t ht hW => ⟨⟨v, σ1, rfl, ⟨e1, e2⟩, by rw [ht]; exact hP1, va_K.moved hW.alike hK, hD1⟩, hS1.F ht⟩) hS1.2.2 hd
theorem ctIr {x : Option Int32} (hy : plainName y.cls = true) (hret : ret = some .int) (hen : enL av maxL = L0) (hlen : (L0.length, Nat.ble (lg_sl av).length maxL) = (maxL, true)) (body : ∀ κ : KT Hp Int32, KO G κ bytes y.cls lv → KE b κ → (∀ (v : Int32) (pc : Nat) (L : List (Option Value)), decode bytes pc = .ok (.ireturn, 1) → VV G κ (some v) σ pc L [.int v]) → VV G κ x σ 0 L0 []) : CtI G b y bytes maxL ret lv av (rdI x σ) σ := by
  subst hret
  intro l τ sz r σ' hx
  obtain ⟨hxs, rfl⟩ : x = some r ∧ σ = σ' := by
    unfold rdI at hx
    cases x with
    | none => cases hx
    | some v => simp at hx; exact ⟨by rw [hx.1], hx.2⟩
  refine Met.ofW (cc := bytes) (maxL := maxL) hy rfl ?_
  intro p e s m args below meth c s₁ B hml hv
  obtain ⟨rfl, hsz, hP, hK, hD0, hNw⟩ := hv
  have hx := B.exec
  have hb := B.bytes
  have hr := B.returns
  have hts : ∀ w ∈ WT, w.before av.toArray s = true := fun w hw => atoms_spec (ws := Cond.code y bytes maxL (some .int) :: WT) B.pre w (List.mem_cons_of_mem _ hw)
  have hown : s.vm.findClass y.cls = some m.cls := findClass_of_methodNamed B.named
  have hlocks := B.notSynchronized
  subst hsz
  have hl := lv_entry av (n := maxL) (Nat.le_of_ble_eq_true (Prod.mk.inj hlen).2)
  rw [lg_entry_eq]
  generalize (lg_sl av ++ List.replicate (maxL - (lg_sl av).length) Slot.unset).toArray = ls at hl ⊢
  have hl' : lvL ls maxL L0 := ⟨hl.1, (Prod.mk.inj hlen).1, hl.2.1, fun i v hi => hl.2.2 (i, v) (by
    rw [← hen] at hi
    have h9 := enL_in av maxL 0 i v hi
    rwa [Nat.zero_add] at h9)⟩
  have hbody := body ((p, l, e, rmL lv, s, m, av.toArray, below, meth, c), MQ below (va_Qi (fun r0 (u : Hp) => r0 = r ∧ u = σ) (fun u t => PostW G (eb b τ σ) (eb b τ u) s.heap.size t) (va_A (wsG G (eb b τ σ)) s.heap.size)) av.toArray s 0 0 (va_A (wsG G (eb b τ σ)) s.heap.size), va_A (wsG G (eb b τ σ)) s.heap.size, s.heap, (maxL, 0, 0), eb b τ, r) ⟨hx, hb, hml, hown, hts, hK, fun q hq => Or.inr hq, ⟨Nat.zero_le _, Nat.zero_le _⟩, ⟨Nat.le_refl _, Nat.le_refl _⟩, hNw⟩ ⟨τ, rfl⟩ ?_ hxs s.heap [] ls hl' hP hD0.self va_S.rf
  · exact hbody
  · intro v pc L hd hx0 H locs ls1 hl1 hP1 hD1 hS1
    have e1 : v = r := Option.some.inj hx0
    have e2 : σ = σ := rfl
    exact W.iret hx hb hr (fun t ht hW => ⟨⟨v, σ, rfl, ⟨e1, e2⟩, by rw [ht]; exact hP1, va_K.moved hW.alike hK, hD1⟩, hS1.F ht⟩) hS1.2.2 hd
theorem ctZ {x : Option (Int32 × Hp)} (hy : plainName y.cls = true) (hret : ret = some .boolean) (hen : enL av maxL = L0) (hlen : (L0.length, Nat.ble (lg_sl av).length maxL) = (maxL, true)) (body : ∀ κ : KT Hp (Int32 × Hp), KO G κ bytes y.cls lv → KE b κ → (∀ (v : Int32) (σ1 : Hp) (pc : Nat) (L : List (Option Value)), decode bytes pc = .ok (.ireturn, 1) → VV G κ (ckZ v (some (v, σ1))) σ1 pc L [.int v]) → VV G κ x σ 0 L0 []) : CtI G b y bytes maxL ret lv av (x) σ := by
  subst hret
  intro l τ sz r σ' hx
  have hxs := hx
  refine Met.ofW (cc := bytes) (maxL := maxL) hy rfl ?_
  intro p e s m args below meth c s₁ B hml hv
  obtain ⟨rfl, hsz, hP, hK, hD0, hNw⟩ := hv
  have hx := B.exec
  have hb := B.bytes
  have hr := B.returns
  have hts : ∀ w ∈ WT, w.before av.toArray s = true := fun w hw => atoms_spec (ws := Cond.code y bytes maxL (some .boolean) :: WT) B.pre w (List.mem_cons_of_mem _ hw)
  have hown : s.vm.findClass y.cls = some m.cls := findClass_of_methodNamed B.named
  have hlocks := B.notSynchronized
  subst hsz
  have hl := lv_entry av (n := maxL) (Nat.le_of_ble_eq_true (Prod.mk.inj hlen).2)
  rw [lg_entry_eq]
  generalize (lg_sl av ++ List.replicate (maxL - (lg_sl av).length) Slot.unset).toArray = ls at hl ⊢
  have hl' : lvL ls maxL L0 := ⟨hl.1, (Prod.mk.inj hlen).1, hl.2.1, fun i v hi => hl.2.2 (i, v) (by
    rw [← hen] at hi
    have h9 := enL_in av maxL 0 i v hi
    rwa [Nat.zero_add] at h9)⟩
  have hbody := body ((p, l, e, rmL lv, s, m, av.toArray, below, meth, c), MQ below (va_Qi (fun r0 (u : Hp) => r0 = r ∧ u = σ') (fun u t => PostW G (eb b τ σ) (eb b τ u) s.heap.size t) (va_A (wsG G (eb b τ σ)) s.heap.size)) av.toArray s 0 0 (va_A (wsG G (eb b τ σ)) s.heap.size), va_A (wsG G (eb b τ σ)) s.heap.size, s.heap, (maxL, 0, 0), eb b τ, (r, σ')) ⟨hx, hb, hml, hown, hts, hK, fun q hq => Or.inr hq, ⟨Nat.zero_le _, Nat.zero_le _⟩, ⟨Nat.le_refl _, Nat.le_refl _⟩, hNw⟩ ⟨τ, rfl⟩ ?_ hxs s.heap [] ls hl' hP hD0.self va_S.rf
  · exact hbody
  · intro v σ1 pc L hd hx0 H locs ls1 hl1 hP1 hD1 hS1
    unfold ckZ at hx0
    split at hx0
    case isFalse => cases hx0
    rename_i hz
    have e9 := Option.some.inj hx0
    have e1 : v = r := congrArg Prod.fst e9
    have e2 : σ1 = σ' := congrArg Prod.snd e9
    exact W.zret hx hb hr (narB hz) (fun t ht hW => ⟨⟨v, σ1, rfl, ⟨e1, e2⟩, by rw [ht]; exact hP1, va_K.moved hW.alike hK, hD1⟩, hS1.F ht⟩) hS1.2.2 hd
theorem ctZr {x : Option Int32} (hy : plainName y.cls = true) (hret : ret = some .boolean) (hen : enL av maxL = L0) (hlen : (L0.length, Nat.ble (lg_sl av).length maxL) = (maxL, true)) (body : ∀ κ : KT Hp Int32, KO G κ bytes y.cls lv → KE b κ → (∀ (v : Int32) (pc : Nat) (L : List (Option Value)), decode bytes pc = .ok (.ireturn, 1) → VV G κ (ckZ v (some v)) σ pc L [.int v]) → VV G κ x σ 0 L0 []) : CtI G b y bytes maxL ret lv av (rdI x σ) σ := by
  subst hret
  intro l τ sz r σ' hx
  obtain ⟨hxs, rfl⟩ : x = some r ∧ σ = σ' := by
    unfold rdI at hx
    cases x with
    | none => cases hx
    | some v => simp at hx; exact ⟨by rw [hx.1], hx.2⟩
  refine Met.ofW (cc := bytes) (maxL := maxL) hy rfl ?_
  intro p e s m args below meth c s₁ B hml hv
  obtain ⟨rfl, hsz, hP, hK, hD0, hNw⟩ := hv
  have hx := B.exec
  have hb := B.bytes
  have hr := B.returns
  have hts : ∀ w ∈ WT, w.before av.toArray s = true := fun w hw => atoms_spec (ws := Cond.code y bytes maxL (some .boolean) :: WT) B.pre w (List.mem_cons_of_mem _ hw)
  have hown : s.vm.findClass y.cls = some m.cls := findClass_of_methodNamed B.named
  have hlocks := B.notSynchronized
  subst hsz
  have hl := lv_entry av (n := maxL) (Nat.le_of_ble_eq_true (Prod.mk.inj hlen).2)
  rw [lg_entry_eq]
  generalize (lg_sl av ++ List.replicate (maxL - (lg_sl av).length) Slot.unset).toArray = ls at hl ⊢
  have hl' : lvL ls maxL L0 := ⟨hl.1, (Prod.mk.inj hlen).1, hl.2.1, fun i v hi => hl.2.2 (i, v) (by
    rw [← hen] at hi
    have h9 := enL_in av maxL 0 i v hi
    rwa [Nat.zero_add] at h9)⟩
  have hbody := body ((p, l, e, rmL lv, s, m, av.toArray, below, meth, c), MQ below (va_Qi (fun r0 (u : Hp) => r0 = r ∧ u = σ) (fun u t => PostW G (eb b τ σ) (eb b τ u) s.heap.size t) (va_A (wsG G (eb b τ σ)) s.heap.size)) av.toArray s 0 0 (va_A (wsG G (eb b τ σ)) s.heap.size), va_A (wsG G (eb b τ σ)) s.heap.size, s.heap, (maxL, 0, 0), eb b τ, r) ⟨hx, hb, hml, hown, hts, hK, fun q hq => Or.inr hq, ⟨Nat.zero_le _, Nat.zero_le _⟩, ⟨Nat.le_refl _, Nat.le_refl _⟩, hNw⟩ ⟨τ, rfl⟩ ?_ hxs s.heap [] ls hl' hP hD0.self va_S.rf
  · exact hbody
  · intro v pc L hd hx0 H locs ls1 hl1 hP1 hD1 hS1
    unfold ckZ at hx0
    split at hx0
    case isFalse => cases hx0
    rename_i hz
    have e1 : v = r := Option.some.inj hx0
    have e2 : σ = σ := rfl
    exact W.zret hx hb hr (narB hz) (fun t ht hW => ⟨⟨v, σ, rfl, ⟨e1, e2⟩, by rw [ht]; exact hP1, va_K.moved hW.alike hK, hD1⟩, hS1.F ht⟩) hS1.2.2 hd
theorem ctJ {x : Option (Int64 × Hp)} (hy : plainName y.cls = true) (hret : ret = some .long) (hen : enL av maxL = L0) (hlen : (L0.length, Nat.ble (lg_sl av).length maxL) = (maxL, true)) (body : ∀ κ : KT Hp (Int64 × Hp), KO G κ bytes y.cls lv → KE b κ → (∀ (v : Int64) (σ1 : Hp) (pc : Nat) (L : List (Option Value)), decode bytes pc = .ok (.lreturn, 1) → VV G κ (some (v, σ1)) σ1 pc L [.long v]) → VV G κ x σ 0 L0 []) : CtJ G b y bytes maxL ret lv av (x) σ := by
  subst hret
  intro l τ sz r σ' hx
  have hxs := hx
  refine Met.ofW (cc := bytes) (maxL := maxL) hy rfl ?_
  intro p e s m args below meth c s₁ B hml hv
  obtain ⟨rfl, hsz, hP, hK, hD0, hNw⟩ := hv
  have hx := B.exec
  have hb := B.bytes
  have hr := B.returns
  have hts : ∀ w ∈ WT, w.before av.toArray s = true := fun w hw => atoms_spec (ws := Cond.code y bytes maxL (some .long) :: WT) B.pre w (List.mem_cons_of_mem _ hw)
  have hown : s.vm.findClass y.cls = some m.cls := findClass_of_methodNamed B.named
  have hlocks := B.notSynchronized
  subst hsz
  have hl := lv_entry av (n := maxL) (Nat.le_of_ble_eq_true (Prod.mk.inj hlen).2)
  rw [lg_entry_eq]
  generalize (lg_sl av ++ List.replicate (maxL - (lg_sl av).length) Slot.unset).toArray = ls at hl ⊢
  have hl' : lvL ls maxL L0 := ⟨hl.1, (Prod.mk.inj hlen).1, hl.2.1, fun i v hi => hl.2.2 (i, v) (by
    rw [← hen] at hi
    have h9 := enL_in av maxL 0 i v hi
    rwa [Nat.zero_add] at h9)⟩
  have hbody := body ((p, l, e, rmL lv, s, m, av.toArray, below, meth, c), MQ below (va_Ql (fun r0 (u : Hp) => r0 = r ∧ u = σ') (fun u t => PostW G (eb b τ σ) (eb b τ u) s.heap.size t) (va_A (wsG G (eb b τ σ)) s.heap.size)) av.toArray s 0 0 (va_A (wsG G (eb b τ σ)) s.heap.size), va_A (wsG G (eb b τ σ)) s.heap.size, s.heap, (maxL, 0, 0), eb b τ, (r, σ')) ⟨hx, hb, hml, hown, hts, hK, fun q hq => Or.inr hq, ⟨Nat.zero_le _, Nat.zero_le _⟩, ⟨Nat.le_refl _, Nat.le_refl _⟩, hNw⟩ ⟨τ, rfl⟩ ?_ hxs s.heap [] ls hl' hP hD0.self va_S.rf
  · exact hbody
  · intro v σ1 pc L hd hx0 H locs ls1 hl1 hP1 hD1 hS1
    have e9 := Option.some.inj hx0
    have e1 : v = r := congrArg Prod.fst e9
    have e2 : σ1 = σ' := congrArg Prod.snd e9
    exact W.lret hx hb hr (fun t ht hW => ⟨⟨v, σ1, rfl, ⟨e1, e2⟩, by rw [ht]; exact hP1, va_K.moved hW.alike hK, hD1⟩, hS1.F ht⟩) hS1.2.2 hd
theorem ctJr {x : Option Int64} (hy : plainName y.cls = true) (hret : ret = some .long) (hen : enL av maxL = L0) (hlen : (L0.length, Nat.ble (lg_sl av).length maxL) = (maxL, true)) (body : ∀ κ : KT Hp Int64, KO G κ bytes y.cls lv → KE b κ → (∀ (v : Int64) (pc : Nat) (L : List (Option Value)), decode bytes pc = .ok (.lreturn, 1) → VV G κ (some v) σ pc L [.long v]) → VV G κ x σ 0 L0 []) : CtJ G b y bytes maxL ret lv av (rdJ x σ) σ := by
  subst hret
  intro l τ sz r σ' hx
  obtain ⟨hxs, rfl⟩ : x = some r ∧ σ = σ' := by
    unfold rdJ at hx
    cases x with
    | none => cases hx
    | some v => simp at hx; exact ⟨by rw [hx.1], hx.2⟩
  refine Met.ofW (cc := bytes) (maxL := maxL) hy rfl ?_
  intro p e s m args below meth c s₁ B hml hv
  obtain ⟨rfl, hsz, hP, hK, hD0, hNw⟩ := hv
  have hx := B.exec
  have hb := B.bytes
  have hr := B.returns
  have hts : ∀ w ∈ WT, w.before av.toArray s = true := fun w hw => atoms_spec (ws := Cond.code y bytes maxL (some .long) :: WT) B.pre w (List.mem_cons_of_mem _ hw)
  have hown : s.vm.findClass y.cls = some m.cls := findClass_of_methodNamed B.named
  have hlocks := B.notSynchronized
  subst hsz
  have hl := lv_entry av (n := maxL) (Nat.le_of_ble_eq_true (Prod.mk.inj hlen).2)
  rw [lg_entry_eq]
  generalize (lg_sl av ++ List.replicate (maxL - (lg_sl av).length) Slot.unset).toArray = ls at hl ⊢
  have hl' : lvL ls maxL L0 := ⟨hl.1, (Prod.mk.inj hlen).1, hl.2.1, fun i v hi => hl.2.2 (i, v) (by
    rw [← hen] at hi
    have h9 := enL_in av maxL 0 i v hi
    rwa [Nat.zero_add] at h9)⟩
  have hbody := body ((p, l, e, rmL lv, s, m, av.toArray, below, meth, c), MQ below (va_Ql (fun r0 (u : Hp) => r0 = r ∧ u = σ) (fun u t => PostW G (eb b τ σ) (eb b τ u) s.heap.size t) (va_A (wsG G (eb b τ σ)) s.heap.size)) av.toArray s 0 0 (va_A (wsG G (eb b τ σ)) s.heap.size), va_A (wsG G (eb b τ σ)) s.heap.size, s.heap, (maxL, 0, 0), eb b τ, r) ⟨hx, hb, hml, hown, hts, hK, fun q hq => Or.inr hq, ⟨Nat.zero_le _, Nat.zero_le _⟩, ⟨Nat.le_refl _, Nat.le_refl _⟩, hNw⟩ ⟨τ, rfl⟩ ?_ hxs s.heap [] ls hl' hP hD0.self va_S.rf
  · exact hbody
  · intro v pc L hd hx0 H locs ls1 hl1 hP1 hD1 hS1
    have e1 : v = r := Option.some.inj hx0
    have e2 : σ = σ := rfl
    exact W.lret hx hb hr (fun t ht hW => ⟨⟨v, σ, rfl, ⟨e1, e2⟩, by rw [ht]; exact hP1, va_K.moved hW.alike hK, hD1⟩, hS1.F ht⟩) hS1.2.2 hd
theorem ctV {x : Option Hp} (hy : plainName y.cls = true) (hret : ret = none) (hen : enL av maxL = L0) (hlen : (L0.length, Nat.ble (lg_sl av).length maxL) = (maxL, true)) (body : ∀ κ : KT Hp Hp, KO G κ bytes y.cls lv → KE b κ → (∀ (σ1 : Hp) (pc : Nat) (L : List (Option Value)), decode bytes pc = .ok (.return_, 1) → VV G κ (some σ1) σ1 pc L []) → VV G κ x σ 0 L0 []) : CtV G b y bytes maxL ret lv av (x) σ := by
  subst hret
  intro l τ sz σ' hx
  have hxs := hx
  refine Met.ofW (cc := bytes) (maxL := maxL) hy rfl ?_
  intro p e s m args below meth c s₁ B hml hv
  obtain ⟨rfl, hsz, hP, hK, hD0, hNw⟩ := hv
  have hx := B.exec
  have hb := B.bytes
  have hr := B.returns
  have hts : ∀ w ∈ WT, w.before av.toArray s = true := fun w hw => atoms_spec (ws := Cond.code y bytes maxL (none) :: WT) B.pre w (List.mem_cons_of_mem _ hw)
  have hown : s.vm.findClass y.cls = some m.cls := findClass_of_methodNamed B.named
  have hlocks := B.notSynchronized
  subst hsz
  have hl := lv_entry av (n := maxL) (Nat.le_of_ble_eq_true (Prod.mk.inj hlen).2)
  rw [lg_entry_eq]
  generalize (lg_sl av ++ List.replicate (maxL - (lg_sl av).length) Slot.unset).toArray = ls at hl ⊢
  have hl' : lvL ls maxL L0 := ⟨hl.1, (Prod.mk.inj hlen).1, hl.2.1, fun i v hi => hl.2.2 (i, v) (by
    rw [← hen] at hi
    have h9 := enL_in av maxL 0 i v hi
    rwa [Nat.zero_add] at h9)⟩
  have hbody := body ((p, l, e, rmL lv, s, m, av.toArray, below, meth, c), MQ below (va_Qv (fun (u : Hp) => u = σ') (fun u t => PostW G (eb b τ σ) (eb b τ u) s.heap.size t) (va_A (wsG G (eb b τ σ)) s.heap.size)) av.toArray s 0 0 (va_A (wsG G (eb b τ σ)) s.heap.size), va_A (wsG G (eb b τ σ)) s.heap.size, s.heap, (maxL, 0, 0), eb b τ, σ') ⟨hx, hb, hml, hown, hts, hK, fun q hq => Or.inr hq, ⟨Nat.zero_le _, Nat.zero_le _⟩, ⟨Nat.le_refl _, Nat.le_refl _⟩, hNw⟩ ⟨τ, rfl⟩ ?_ hxs s.heap [] ls hl' hP hD0.self va_S.rf
  · exact hbody
  · intro σ1 pc L hd hx0 H locs ls1 hl1 hP1 hD1 hS1
    have e9 : σ1 = σ' := Option.some.inj hx0
    exact W.vret hx hb hr (fun t ht hW => ⟨⟨σ1, rfl, e9, by rw [ht]; exact hP1, va_K.moved hW.alike hK, hD1⟩, hS1.F ht⟩) hS1.2.2 hd
end START
/-! ===== calls ===== -/
def CF (C : String) (y : MethodName) (bytes : ByteArray) (maxL : Nat) (ret : Option FieldType) (n : Nat) : Prop := (Cond.instanceMethod y ∈ WT ∧ Cond.selects C y y ∈ WT ∧ Cond.initialized y.cls ∈ WT ∧ Cond.code y bytes maxL ret ∈ WT) ∧ y.cls = C ∧ (y.cls ≠ "java/lang/invoke/MethodHandle" ∧ y.cls ≠ "java/lang/invoke/VarHandle") ∧ (parseMethodDescriptor y.desc).map (fun d => d.parameters.length) = some n ∧ maxL ≤ 21
def SF (y : MethodName) (bytes : ByteArray) (maxL : Nat) (ret : Option FieldType) (n : Nat) : Prop := (Cond.static y ∈ WT ∧ Cond.initialized y.cls ∈ WT ∧ Cond.code y bytes maxL ret ∈ WT) ∧ (y.cls ≠ "java/lang/invoke/MethodHandle" ∧ y.cls ≠ "java/lang/invoke/VarHandle") ∧ (parseMethodDescriptor y.desc).map (fun d => d.parameters.length) = some n ∧ maxL ≤ 21
theorem gi_of {y : MethodName} {bytes : ByteArray} {maxL : Nat} {ret : Option FieldType} (hcode : Cond.code y bytes maxL ret ∈ WT) : GoodIn WT (Cond.code y bytes maxL ret :: WT) := fun w hw => by
  rcases List.mem_cons.mp hw with rfl | hw
  · exact ⟨hcode, Or.inl rfl⟩
  · exact ⟨hw, wt_good w hw⟩
theorem cb_of {R : Room} {s : State} {args : Array Value} {own : String} {ix : Nat} {y : MethodName} {bytes : ByteArray} {maxL n lv lc : Nat} {ret : Option FieldType} (hts : ∀ w ∈ WT, w.before args s = true) (hini : Cond.initialized y.cls ∈ WT) (hcode : Cond.code y bytes maxL ret ∈ WT) (hne : y.cls ≠ "java/lang/invoke/MethodHandle" ∧ y.cls ≠ "java/lang/invoke/VarHandle") (hn : (parseMethodDescriptor y.desc).map (fun d => d.parameters.length) = some n) (hm : maxL ≤ 21) (hl : Cond.methodLink own ix y ∈ WT) (hlv : lc < lv) (hR : lv + 1 ≤ R.frames ∧ 40 * (lv + 1) ≤ R.locals) : CallB R s args own ix y bytes maxL ret (Cond.code y bytes maxL ret :: WT) (rmL lc) 0 0 n := by
  refine ⟨rfl, rfl, ?_, ?_, pay_in hts (gi_of hcode), List.mem_cons_self, hts _ hcode, hts _ hini, hne, fun sig h => ?_, hts _ hl⟩
  · show lc + 1 + 1 ≤ R.frames
    omega
  · show 8 + (maxL + 11) + 40 * (lc + 1) ≤ R.locals
    omega
  · rw [h] at hn
    exact (Option.some.inj hn).symm
section CALLS
variable {α : Type} {G : GT} {cc bytes : ByteArray} {own C : String} {lv lc pc ix maxL n k ci : Nat} {L : List (Option Value)} {st stk As : List Value} {κ : KT Hp α} {σ : Hp} {b : Bool} {y : MethodName} {ret : Option FieldType} {fs : List (Option Nat)} {T : u_T} {N : Nat} {ty : Nat → FieldType}
theorem vv_invI {x : Option (Int32 × Hp)} {f : Int32 → Hp → Option α} (q : Nat) (hk : KO G κ cc own lv) (he : KE b κ) (d : decode cc pc = .ok (.invokevirtual ix, 3)) (hq : pc + 3 = q) (hl : Cond.methodLink own ix y ∈ WT) (hf : CF C y bytes maxL ret n) (ho : LAY[k]? = some (.inl (ci, fs))) (hc : CI ci C T N ty) (hM : CtI G b y bytes maxL ret lc (rf G k :: As) (x) σ) (hlv : Nat.blt lc lv = true) (hst : stk = As.reverse ++ rf G k :: st) (hn : As.length = n) (hsm : Nat.ble (st.map fun v => v.category).sum 8 = true) (kk : ∀ r σ', VV G κ (f r σ') σ' q L (.int r :: st)) : VV G κ (cl x f) σ pc L stk := by
  obtain ⟨⟨p, l, e, R, s, m, args, below, meth, c⟩, Q, A, H0, ⟨nL, nc, ns⟩, emb, r0⟩ := κ
  obtain ⟨hx, hb, hml, hown, hts, hK, hA, hcs, hR, hNw⟩ := hk
  subst hq
  obtain ⟨τ, he⟩ := he
  dsimp only at he
  subst he
  subst hst
  have hlv : lc < lv := Nat.le_of_ble_eq_true hlv
  have hsm : (st.map fun v => v.category).sum ≤ 8 := Nat.le_of_ble_eq_true hsm
  intro hx0 H locs ls h hP hD hS
  cases hxx : x with
  | none => rw [hxx] at hx0; cases hx0
  | some t =>
  obtain ⟨r, σ'⟩ := t
  rw [hxx] at hx0 hM
  replace hx0 : f r σ' = some r0 := hx0
  have hAA : ∀ q : Nat, va_A (wsG G (eb b τ σ)) H.size q → A q := fun q h9 => by
    rcases h9 with ⟨k9, e9, h9⟩ | h9
    · exact hD.2 k9 _ h9
    · exact hA q (Nat.le_trans hS.1 h9)
  refine va_calli (va_runV (As := As) (rest := st) ⟨hx, hb, hml, hown, hts⟩ (hM l τ H.size r σ' rfl) ⟨cb_of hts hf.1.2.2.1 hf.1.2.2.2 hf.2.2.1 hf.2.2.2.1 hf.2.2.2.2 hl hlv hR, hts _ hf.1.1, hts _ hf.1.2.1⟩ ⟨PreW.blind, va_recv hK hP (ci := ci) (q0 := k) hc.1 (ws_get G _ ho), fun U hU hW => ⟨rfl, by rw [hU], by rw [hU]; exact hP, va_K.moved hW.alike hK, hD.weaken (fun _ _ _ _ => trivial), va_Nw.warmM hW hNw⟩⟩ rfl hn (h.1.trans rfl) rfl (lv_room hsm) d ⟨hcs.1, hcs.2⟩) hS (fun q _ h9 => hAA q h9) hAA (fun r1 u t H1 locs1 ht hvm hw hB hz1 hk1 hS1 => ?_)
  obtain ⟨rfl, rfl⟩ : r1 = r ∧ u = σ' := hw
  obtain ⟨hP1, hK1, hD1⟩ := hB
  rw [ht] at hP1
  exact kk _ _ hx0 H1 locs1 ls h hP1 (va_D_same hD (ws_ads G _ _)) hS1
theorem vv_invIr {x : Option Int32} {f : Int32 → Option α} (q : Nat) (hk : KO G κ cc own lv) (he : KE b κ) (d : decode cc pc = .ok (.invokevirtual ix, 3)) (hq : pc + 3 = q) (hl : Cond.methodLink own ix y ∈ WT) (hf : CF C y bytes maxL ret n) (ho : LAY[k]? = some (.inl (ci, fs))) (hc : CI ci C T N ty) (hM : CtI G b y bytes maxL ret lc (rf G k :: As) (rdI x σ) σ) (hlv : Nat.blt lc lv = true) (hst : stk = As.reverse ++ rf G k :: st) (hn : As.length = n) (hsm : Nat.ble (st.map fun v => v.category).sum 8 = true) (kk : ∀ r, VV G κ (f r) σ q L (.int r :: st)) : VV G κ (cr x f) σ pc L stk := by
  obtain ⟨⟨p, l, e, R, s, m, args, below, meth, c⟩, Q, A, H0, ⟨nL, nc, ns⟩, emb, r0⟩ := κ
  obtain ⟨hx, hb, hml, hown, hts, hK, hA, hcs, hR, hNw⟩ := hk
  subst hq
  obtain ⟨τ, he⟩ := he
  dsimp only at he
  subst he
  subst hst
  have hlv : lc < lv := Nat.le_of_ble_eq_true hlv
  have hsm : (st.map fun v => v.category).sum ≤ 8 := Nat.le_of_ble_eq_true hsm
  intro hx0 H locs ls h hP hD hS
  cases hxx : x with
  | none => rw [hxx] at hx0; cases hx0
  | some r =>
  rw [hxx] at hx0 hM
  replace hx0 : f r = some r0 := hx0
  have hAA : ∀ q : Nat, va_A (wsG G (eb b τ σ)) H.size q → A q := fun q h9 => by
    rcases h9 with ⟨k9, e9, h9⟩ | h9
    · exact hD.2 k9 _ h9
    · exact hA q (Nat.le_trans hS.1 h9)
  refine va_calli (va_runV (As := As) (rest := st) ⟨hx, hb, hml, hown, hts⟩ (hM l τ H.size r σ rfl) ⟨cb_of hts hf.1.2.2.1 hf.1.2.2.2 hf.2.2.1 hf.2.2.2.1 hf.2.2.2.2 hl hlv hR, hts _ hf.1.1, hts _ hf.1.2.1⟩ ⟨PreW.blind, va_recv hK hP (ci := ci) (q0 := k) hc.1 (ws_get G _ ho), fun U hU hW => ⟨rfl, by rw [hU], by rw [hU]; exact hP, va_K.moved hW.alike hK, hD.weaken (fun _ _ _ _ => trivial), va_Nw.warmM hW hNw⟩⟩ rfl hn (h.1.trans rfl) rfl (lv_room hsm) d ⟨hcs.1, hcs.2⟩) hS (fun q _ h9 => hAA q h9) hAA (fun r1 u t H1 locs1 ht hvm hw hB hz1 hk1 hS1 => ?_)
  obtain ⟨rfl, rfl⟩ : r1 = r ∧ u = σ := hw
  obtain ⟨hP1, hK1, hD1⟩ := hB
  rw [ht] at hP1
  exact kk _ hx0 H1 locs1 ls h hP1 (va_D_same hD (ws_ads G _ _)) hS1
theorem vv_staI {x : Option (Int32 × Hp)} {f : Int32 → Hp → Option α} (q : Nat) (hk : KO G κ cc own lv) (he : KE b κ) (d : decode cc pc = .ok (.invokestatic ix, 3)) (hq : pc + 3 = q) (hl : Cond.methodLink own ix y ∈ WT) (hf : SF y bytes maxL ret n) (hM : CtI G b y bytes maxL ret lc As (x) σ) (hlv : Nat.blt lc lv = true) (hst : stk = As.reverse ++ st) (hn : As.length = n) (hsm : Nat.ble (st.map fun v => v.category).sum 8 = true) (kk : ∀ r σ', VV G κ (f r σ') σ' q L (.int r :: st)) : VV G κ (cl x f) σ pc L stk := by
  obtain ⟨⟨p, l, e, R, s, m, args, below, meth, c⟩, Q, A, H0, ⟨nL, nc, ns⟩, emb, r0⟩ := κ
  obtain ⟨hx, hb, hml, hown, hts, hK, hA, hcs, hR, hNw⟩ := hk
  subst hq
  obtain ⟨τ, he⟩ := he
  dsimp only at he
  subst he
  subst hst
  have hlv : lc < lv := Nat.le_of_ble_eq_true hlv
  have hsm : (st.map fun v => v.category).sum ≤ 8 := Nat.le_of_ble_eq_true hsm
  intro hx0 H locs ls h hP hD hS
  cases hxx : x with
  | none => rw [hxx] at hx0; cases hx0
  | some t =>
  obtain ⟨r, σ'⟩ := t
  rw [hxx] at hx0 hM
  replace hx0 : f r σ' = some r0 := hx0
  have hAA : ∀ q : Nat, va_A (wsG G (eb b τ σ)) H.size q → A q := fun q h9 => by
    rcases h9 with ⟨k9, e9, h9⟩ | h9
    · exact hD.2 k9 _ h9
    · exact hA q (Nat.le_trans hS.1 h9)
  refine va_calli (va_runS (As := As) (rest := st) ⟨hx, hb, hml, hown, hts⟩ (hM l τ H.size r σ' rfl) ⟨cb_of hts hf.1.2.1 hf.1.2.2 hf.2.1 hf.2.2.1 hf.2.2.2 hl hlv hR, hts _ hf.1.1⟩ ⟨PreW.blind, fun U hU hW => ⟨rfl, by rw [hU], by rw [hU]; exact hP, va_K.moved hW.alike hK, hD.weaken (fun _ _ _ _ => trivial), va_Nw.warmM hW hNw⟩⟩ rfl hn (h.1.trans rfl) rfl (lv_room hsm) d ⟨hcs.1, hcs.2⟩) hS (fun q _ h9 => hAA q h9) hAA (fun r1 u t H1 locs1 ht hvm hw hB hz1 hk1 hS1 => ?_)
  obtain ⟨rfl, rfl⟩ : r1 = r ∧ u = σ' := hw
  obtain ⟨hP1, hK1, hD1⟩ := hB
  rw [ht] at hP1
  exact kk _ _ hx0 H1 locs1 ls h hP1 (va_D_same hD (ws_ads G _ _)) hS1
theorem vv_staIr {x : Option Int32} {f : Int32 → Option α} (q : Nat) (hk : KO G κ cc own lv) (he : KE b κ) (d : decode cc pc = .ok (.invokestatic ix, 3)) (hq : pc + 3 = q) (hl : Cond.methodLink own ix y ∈ WT) (hf : SF y bytes maxL ret n) (hM : CtI G b y bytes maxL ret lc As (rdI x σ) σ) (hlv : Nat.blt lc lv = true) (hst : stk = As.reverse ++ st) (hn : As.length = n) (hsm : Nat.ble (st.map fun v => v.category).sum 8 = true) (kk : ∀ r, VV G κ (f r) σ q L (.int r :: st)) : VV G κ (cr x f) σ pc L stk := by
  obtain ⟨⟨p, l, e, R, s, m, args, below, meth, c⟩, Q, A, H0, ⟨nL, nc, ns⟩, emb, r0⟩ := κ
  obtain ⟨hx, hb, hml, hown, hts, hK, hA, hcs, hR, hNw⟩ := hk
  subst hq
  obtain ⟨τ, he⟩ := he
  dsimp only at he
  subst he
  subst hst
  have hlv : lc < lv := Nat.le_of_ble_eq_true hlv
  have hsm : (st.map fun v => v.category).sum ≤ 8 := Nat.le_of_ble_eq_true hsm
  intro hx0 H locs ls h hP hD hS
  cases hxx : x with
  | none => rw [hxx] at hx0; cases hx0
  | some r =>
  rw [hxx] at hx0 hM
  replace hx0 : f r = some r0 := hx0
  have hAA : ∀ q : Nat, va_A (wsG G (eb b τ σ)) H.size q → A q := fun q h9 => by
    rcases h9 with ⟨k9, e9, h9⟩ | h9
    · exact hD.2 k9 _ h9
    · exact hA q (Nat.le_trans hS.1 h9)
  refine va_calli (va_runS (As := As) (rest := st) ⟨hx, hb, hml, hown, hts⟩ (hM l τ H.size r σ rfl) ⟨cb_of hts hf.1.2.1 hf.1.2.2 hf.2.1 hf.2.2.1 hf.2.2.2 hl hlv hR, hts _ hf.1.1⟩ ⟨PreW.blind, fun U hU hW => ⟨rfl, by rw [hU], by rw [hU]; exact hP, va_K.moved hW.alike hK, hD.weaken (fun _ _ _ _ => trivial), va_Nw.warmM hW hNw⟩⟩ rfl hn (h.1.trans rfl) rfl (lv_room hsm) d ⟨hcs.1, hcs.2⟩) hS (fun q _ h9 => hAA q h9) hAA (fun r1 u t H1 locs1 ht hvm hw hB hz1 hk1 hS1 => ?_)
  obtain ⟨rfl, rfl⟩ : r1 = r ∧ u = σ := hw
  obtain ⟨hP1, hK1, hD1⟩ := hB
  rw [ht] at hP1
  exact kk _ hx0 H1 locs1 ls h hP1 (va_D_same hD (ws_ads G _ _)) hS1
theorem vv_invJ {x : Option (Int64 × Hp)} {f : Int64 → Hp → Option α} (q : Nat) (hk : KO G κ cc own lv) (he : KE b κ) (d : decode cc pc = .ok (.invokevirtual ix, 3)) (hq : pc + 3 = q) (hl : Cond.methodLink own ix y ∈ WT) (hf : CF C y bytes maxL ret n) (ho : LAY[k]? = some (.inl (ci, fs))) (hc : CI ci C T N ty) (hM : CtJ G b y bytes maxL ret lc (rf G k :: As) (x) σ) (hlv : Nat.blt lc lv = true) (hst : stk = As.reverse ++ rf G k :: st) (hn : As.length = n) (hsm : Nat.ble (st.map fun v => v.category).sum 8 = true) (kk : ∀ r σ', VV G κ (f r σ') σ' q L (.long r :: st)) : VV G κ (cl x f) σ pc L stk := by
  obtain ⟨⟨p, l, e, R, s, m, args, below, meth, c⟩, Q, A, H0, ⟨nL, nc, ns⟩, emb, r0⟩ := κ
  obtain ⟨hx, hb, hml, hown, hts, hK, hA, hcs, hR, hNw⟩ := hk
  subst hq
  obtain ⟨τ, he⟩ := he
  dsimp only at he
  subst he
  subst hst
  have hlv : lc < lv := Nat.le_of_ble_eq_true hlv
  have hsm : (st.map fun v => v.category).sum ≤ 8 := Nat.le_of_ble_eq_true hsm
  intro hx0 H locs ls h hP hD hS
  cases hxx : x with
  | none => rw [hxx] at hx0; cases hx0
  | some t =>
  obtain ⟨r, σ'⟩ := t
  rw [hxx] at hx0 hM
  replace hx0 : f r σ' = some r0 := hx0
  have hAA : ∀ q : Nat, va_A (wsG G (eb b τ σ)) H.size q → A q := fun q h9 => by
    rcases h9 with ⟨k9, e9, h9⟩ | h9
    · exact hD.2 k9 _ h9
    · exact hA q (Nat.le_trans hS.1 h9)
  refine va_calll (va_runV (As := As) (rest := st) ⟨hx, hb, hml, hown, hts⟩ (hM l τ H.size r σ' rfl) ⟨cb_of hts hf.1.2.2.1 hf.1.2.2.2 hf.2.2.1 hf.2.2.2.1 hf.2.2.2.2 hl hlv hR, hts _ hf.1.1, hts _ hf.1.2.1⟩ ⟨PreW.blind, va_recv hK hP (ci := ci) (q0 := k) hc.1 (ws_get G _ ho), fun U hU hW => ⟨rfl, by rw [hU], by rw [hU]; exact hP, va_K.moved hW.alike hK, hD.weaken (fun _ _ _ _ => trivial), va_Nw.warmM hW hNw⟩⟩ rfl hn (h.1.trans rfl) rfl (lv_room hsm) d ⟨hcs.1, hcs.2⟩) hS (fun q _ h9 => hAA q h9) hAA (fun r1 u t H1 locs1 ht hvm hw hB hz1 hk1 hS1 => ?_)
  obtain ⟨rfl, rfl⟩ : r1 = r ∧ u = σ' := hw
  obtain ⟨hP1, hK1, hD1⟩ := hB
  rw [ht] at hP1
  exact kk _ _ hx0 H1 locs1 ls h hP1 (va_D_same hD (ws_ads G _ _)) hS1
theorem vv_invJr {x : Option Int64} {f : Int64 → Option α} (q : Nat) (hk : KO G κ cc own lv) (he : KE b κ) (d : decode cc pc = .ok (.invokevirtual ix, 3)) (hq : pc + 3 = q) (hl : Cond.methodLink own ix y ∈ WT) (hf : CF C y bytes maxL ret n) (ho : LAY[k]? = some (.inl (ci, fs))) (hc : CI ci C T N ty) (hM : CtJ G b y bytes maxL ret lc (rf G k :: As) (rdJ x σ) σ) (hlv : Nat.blt lc lv = true) (hst : stk = As.reverse ++ rf G k :: st) (hn : As.length = n) (hsm : Nat.ble (st.map fun v => v.category).sum 8 = true) (kk : ∀ r, VV G κ (f r) σ q L (.long r :: st)) : VV G κ (cr x f) σ pc L stk := by
  obtain ⟨⟨p, l, e, R, s, m, args, below, meth, c⟩, Q, A, H0, ⟨nL, nc, ns⟩, emb, r0⟩ := κ
  obtain ⟨hx, hb, hml, hown, hts, hK, hA, hcs, hR, hNw⟩ := hk
  subst hq
  obtain ⟨τ, he⟩ := he
  dsimp only at he
  subst he
  subst hst
  have hlv : lc < lv := Nat.le_of_ble_eq_true hlv
  have hsm : (st.map fun v => v.category).sum ≤ 8 := Nat.le_of_ble_eq_true hsm
  intro hx0 H locs ls h hP hD hS
  cases hxx : x with
  | none => rw [hxx] at hx0; cases hx0
  | some r =>
  rw [hxx] at hx0 hM
  replace hx0 : f r = some r0 := hx0
  have hAA : ∀ q : Nat, va_A (wsG G (eb b τ σ)) H.size q → A q := fun q h9 => by
    rcases h9 with ⟨k9, e9, h9⟩ | h9
    · exact hD.2 k9 _ h9
    · exact hA q (Nat.le_trans hS.1 h9)
  refine va_calll (va_runV (As := As) (rest := st) ⟨hx, hb, hml, hown, hts⟩ (hM l τ H.size r σ rfl) ⟨cb_of hts hf.1.2.2.1 hf.1.2.2.2 hf.2.2.1 hf.2.2.2.1 hf.2.2.2.2 hl hlv hR, hts _ hf.1.1, hts _ hf.1.2.1⟩ ⟨PreW.blind, va_recv hK hP (ci := ci) (q0 := k) hc.1 (ws_get G _ ho), fun U hU hW => ⟨rfl, by rw [hU], by rw [hU]; exact hP, va_K.moved hW.alike hK, hD.weaken (fun _ _ _ _ => trivial), va_Nw.warmM hW hNw⟩⟩ rfl hn (h.1.trans rfl) rfl (lv_room hsm) d ⟨hcs.1, hcs.2⟩) hS (fun q _ h9 => hAA q h9) hAA (fun r1 u t H1 locs1 ht hvm hw hB hz1 hk1 hS1 => ?_)
  obtain ⟨rfl, rfl⟩ : r1 = r ∧ u = σ := hw
  obtain ⟨hP1, hK1, hD1⟩ := hB
  rw [ht] at hP1
  exact kk _ hx0 H1 locs1 ls h hP1 (va_D_same hD (ws_ads G _ _)) hS1
theorem vv_staJ {x : Option (Int64 × Hp)} {f : Int64 → Hp → Option α} (q : Nat) (hk : KO G κ cc own lv) (he : KE b κ) (d : decode cc pc = .ok (.invokestatic ix, 3)) (hq : pc + 3 = q) (hl : Cond.methodLink own ix y ∈ WT) (hf : SF y bytes maxL ret n) (hM : CtJ G b y bytes maxL ret lc As (x) σ) (hlv : Nat.blt lc lv = true) (hst : stk = As.reverse ++ st) (hn : As.length = n) (hsm : Nat.ble (st.map fun v => v.category).sum 8 = true) (kk : ∀ r σ', VV G κ (f r σ') σ' q L (.long r :: st)) : VV G κ (cl x f) σ pc L stk := by
  obtain ⟨⟨p, l, e, R, s, m, args, below, meth, c⟩, Q, A, H0, ⟨nL, nc, ns⟩, emb, r0⟩ := κ
  obtain ⟨hx, hb, hml, hown, hts, hK, hA, hcs, hR, hNw⟩ := hk
  subst hq
  obtain ⟨τ, he⟩ := he
  dsimp only at he
  subst he
  subst hst
  have hlv : lc < lv := Nat.le_of_ble_eq_true hlv
  have hsm : (st.map fun v => v.category).sum ≤ 8 := Nat.le_of_ble_eq_true hsm
  intro hx0 H locs ls h hP hD hS
  cases hxx : x with
  | none => rw [hxx] at hx0; cases hx0
  | some t =>
  obtain ⟨r, σ'⟩ := t
  rw [hxx] at hx0 hM
  replace hx0 : f r σ' = some r0 := hx0
  have hAA : ∀ q : Nat, va_A (wsG G (eb b τ σ)) H.size q → A q := fun q h9 => by
    rcases h9 with ⟨k9, e9, h9⟩ | h9
    · exact hD.2 k9 _ h9
    · exact hA q (Nat.le_trans hS.1 h9)
  refine va_calll (va_runS (As := As) (rest := st) ⟨hx, hb, hml, hown, hts⟩ (hM l τ H.size r σ' rfl) ⟨cb_of hts hf.1.2.1 hf.1.2.2 hf.2.1 hf.2.2.1 hf.2.2.2 hl hlv hR, hts _ hf.1.1⟩ ⟨PreW.blind, fun U hU hW => ⟨rfl, by rw [hU], by rw [hU]; exact hP, va_K.moved hW.alike hK, hD.weaken (fun _ _ _ _ => trivial), va_Nw.warmM hW hNw⟩⟩ rfl hn (h.1.trans rfl) rfl (lv_room hsm) d ⟨hcs.1, hcs.2⟩) hS (fun q _ h9 => hAA q h9) hAA (fun r1 u t H1 locs1 ht hvm hw hB hz1 hk1 hS1 => ?_)
  obtain ⟨rfl, rfl⟩ : r1 = r ∧ u = σ' := hw
  obtain ⟨hP1, hK1, hD1⟩ := hB
  rw [ht] at hP1
  exact kk _ _ hx0 H1 locs1 ls h hP1 (va_D_same hD (ws_ads G _ _)) hS1
theorem vv_staJr {x : Option Int64} {f : Int64 → Option α} (q : Nat) (hk : KO G κ cc own lv) (he : KE b κ) (d : decode cc pc = .ok (.invokestatic ix, 3)) (hq : pc + 3 = q) (hl : Cond.methodLink own ix y ∈ WT) (hf : SF y bytes maxL ret n) (hM : CtJ G b y bytes maxL ret lc As (rdJ x σ) σ) (hlv : Nat.blt lc lv = true) (hst : stk = As.reverse ++ st) (hn : As.length = n) (hsm : Nat.ble (st.map fun v => v.category).sum 8 = true) (kk : ∀ r, VV G κ (f r) σ q L (.long r :: st)) : VV G κ (cr x f) σ pc L stk := by
  obtain ⟨⟨p, l, e, R, s, m, args, below, meth, c⟩, Q, A, H0, ⟨nL, nc, ns⟩, emb, r0⟩ := κ
  obtain ⟨hx, hb, hml, hown, hts, hK, hA, hcs, hR, hNw⟩ := hk
  subst hq
  obtain ⟨τ, he⟩ := he
  dsimp only at he
  subst he
  subst hst
  have hlv : lc < lv := Nat.le_of_ble_eq_true hlv
  have hsm : (st.map fun v => v.category).sum ≤ 8 := Nat.le_of_ble_eq_true hsm
  intro hx0 H locs ls h hP hD hS
  cases hxx : x with
  | none => rw [hxx] at hx0; cases hx0
  | some r =>
  rw [hxx] at hx0 hM
  replace hx0 : f r = some r0 := hx0
  have hAA : ∀ q : Nat, va_A (wsG G (eb b τ σ)) H.size q → A q := fun q h9 => by
    rcases h9 with ⟨k9, e9, h9⟩ | h9
    · exact hD.2 k9 _ h9
    · exact hA q (Nat.le_trans hS.1 h9)
  refine va_calll (va_runS (As := As) (rest := st) ⟨hx, hb, hml, hown, hts⟩ (hM l τ H.size r σ rfl) ⟨cb_of hts hf.1.2.1 hf.1.2.2 hf.2.1 hf.2.2.1 hf.2.2.2 hl hlv hR, hts _ hf.1.1⟩ ⟨PreW.blind, fun U hU hW => ⟨rfl, by rw [hU], by rw [hU]; exact hP, va_K.moved hW.alike hK, hD.weaken (fun _ _ _ _ => trivial), va_Nw.warmM hW hNw⟩⟩ rfl hn (h.1.trans rfl) rfl (lv_room hsm) d ⟨hcs.1, hcs.2⟩) hS (fun q _ h9 => hAA q h9) hAA (fun r1 u t H1 locs1 ht hvm hw hB hz1 hk1 hS1 => ?_)
  obtain ⟨rfl, rfl⟩ : r1 = r ∧ u = σ := hw
  obtain ⟨hP1, hK1, hD1⟩ := hB
  rw [ht] at hP1
  exact kk _ hx0 H1 locs1 ls h hP1 (va_D_same hD (ws_ads G _ _)) hS1
theorem vv_invV {x : Option Hp} {f : Hp → Option α} (q : Nat) (hk : KO G κ cc own lv) (he : KE b κ) (d : decode cc pc = .ok (.invokevirtual ix, 3)) (hq : pc + 3 = q) (hl : Cond.methodLink own ix y ∈ WT) (hf : CF C y bytes maxL ret n) (ho : LAY[k]? = some (.inl (ci, fs))) (hc : CI ci C T N ty) (hM : CtV G b y bytes maxL ret lc (rf G k :: As) (x) σ) (hlv : Nat.blt lc lv = true) (hst : stk = As.reverse ++ rf G k :: st) (hn : As.length = n) (hsm : Nat.ble (st.map fun v => v.category).sum 8 = true) (kk : ∀ σ', VV G κ (f σ') σ' q L st) : VV G κ (cr x f) σ pc L stk := by
  obtain ⟨⟨p, l, e, R, s, m, args, below, meth, c⟩, Q, A, H0, ⟨nL, nc, ns⟩, emb, r0⟩ := κ
  obtain ⟨hx, hb, hml, hown, hts, hK, hA, hcs, hR, hNw⟩ := hk
  subst hq
  obtain ⟨τ, he⟩ := he
  dsimp only at he
  subst he
  subst hst
  have hlv : lc < lv := Nat.le_of_ble_eq_true hlv
  have hsm : (st.map fun v => v.category).sum ≤ 8 := Nat.le_of_ble_eq_true hsm
  intro hx0 H locs ls h hP hD hS
  cases hxx : x with
  | none => rw [hxx] at hx0; cases hx0
  | some σ' =>
  rw [hxx] at hx0 hM
  replace hx0 : f σ' = some r0 := hx0
  have hAA : ∀ q : Nat, va_A (wsG G (eb b τ σ)) H.size q → A q := fun q h9 => by
    rcases h9 with ⟨k9, e9, h9⟩ | h9
    · exact hD.2 k9 _ h9
    · exact hA q (Nat.le_trans hS.1 h9)
  refine va_callv (va_runV (As := As) (rest := st) ⟨hx, hb, hml, hown, hts⟩ (hM l τ H.size σ' rfl) ⟨cb_of hts hf.1.2.2.1 hf.1.2.2.2 hf.2.2.1 hf.2.2.2.1 hf.2.2.2.2 hl hlv hR, hts _ hf.1.1, hts _ hf.1.2.1⟩ ⟨PreW.blind, va_recv hK hP (ci := ci) (q0 := k) hc.1 (ws_get G _ ho), fun U hU hW => ⟨rfl, by rw [hU], by rw [hU]; exact hP, va_K.moved hW.alike hK, hD.weaken (fun _ _ _ _ => trivial), va_Nw.warmM hW hNw⟩⟩ rfl hn (h.1.trans rfl) rfl (lv_room hsm) d ⟨hcs.1, hcs.2⟩) hS (fun q _ h9 => hAA q h9) hAA (fun u t H1 locs1 ht hvm hw hB hz1 hk1 hS1 => ?_)
  obtain rfl : u = σ' := hw
  obtain ⟨hP1, hK1, hD1⟩ := hB
  rw [ht] at hP1
  exact kk _ hx0 H1 locs1 ls h hP1 (va_D_same hD (ws_ads G _ _)) hS1
theorem vv_staV {x : Option Hp} {f : Hp → Option α} (q : Nat) (hk : KO G κ cc own lv) (he : KE b κ) (d : decode cc pc = .ok (.invokestatic ix, 3)) (hq : pc + 3 = q) (hl : Cond.methodLink own ix y ∈ WT) (hf : SF y bytes maxL ret n) (hM : CtV G b y bytes maxL ret lc As (x) σ) (hlv : Nat.blt lc lv = true) (hst : stk = As.reverse ++ st) (hn : As.length = n) (hsm : Nat.ble (st.map fun v => v.category).sum 8 = true) (kk : ∀ σ', VV G κ (f σ') σ' q L st) : VV G κ (cr x f) σ pc L stk := by
  obtain ⟨⟨p, l, e, R, s, m, args, below, meth, c⟩, Q, A, H0, ⟨nL, nc, ns⟩, emb, r0⟩ := κ
  obtain ⟨hx, hb, hml, hown, hts, hK, hA, hcs, hR, hNw⟩ := hk
  subst hq
  obtain ⟨τ, he⟩ := he
  dsimp only at he
  subst he
  subst hst
  have hlv : lc < lv := Nat.le_of_ble_eq_true hlv
  have hsm : (st.map fun v => v.category).sum ≤ 8 := Nat.le_of_ble_eq_true hsm
  intro hx0 H locs ls h hP hD hS
  cases hxx : x with
  | none => rw [hxx] at hx0; cases hx0
  | some σ' =>
  rw [hxx] at hx0 hM
  replace hx0 : f σ' = some r0 := hx0
  have hAA : ∀ q : Nat, va_A (wsG G (eb b τ σ)) H.size q → A q := fun q h9 => by
    rcases h9 with ⟨k9, e9, h9⟩ | h9
    · exact hD.2 k9 _ h9
    · exact hA q (Nat.le_trans hS.1 h9)
  refine va_callv (va_runS (As := As) (rest := st) ⟨hx, hb, hml, hown, hts⟩ (hM l τ H.size σ' rfl) ⟨cb_of hts hf.1.2.1 hf.1.2.2 hf.2.1 hf.2.2.1 hf.2.2.2 hl hlv hR, hts _ hf.1.1⟩ ⟨PreW.blind, fun U hU hW => ⟨rfl, by rw [hU], by rw [hU]; exact hP, va_K.moved hW.alike hK, hD.weaken (fun _ _ _ _ => trivial), va_Nw.warmM hW hNw⟩⟩ rfl hn (h.1.trans rfl) rfl (lv_room hsm) d ⟨hcs.1, hcs.2⟩) hS (fun q _ h9 => hAA q h9) hAA (fun u t H1 locs1 ht hvm hw hB hz1 hk1 hS1 => ?_)
  obtain rfl : u = σ' := hw
  obtain ⟨hP1, hK1, hD1⟩ := hB
  rw [ht] at hP1
  exact kk _ hx0 H1 locs1 ls h hP1 (va_D_same hD (ws_ads G _ _)) hS1
theorem vv_staIN {x : Option (Int32 × Hp)} {f : Int32 → Hp → Option α} (q : Nat) (hk : KO G κ cc own lv) (he : KE b κ) (d : decode cc pc = .ok (.invokestatic ix, 3)) (hq : pc + 3 = q) (hl : nestW = Cond.methodLinkNest own ix y "NearNothing") (hf : SF y bytes maxL ret n) (hM : CtI G b y bytes maxL ret lc As (x) σ) (hlv : Nat.blt lc lv = true) (hst : stk = As.reverse ++ st) (hn : As.length = n) (hsm : Nat.ble (st.map fun v => v.category).sum 8 = true) (kk : ∀ r σ', VV G κ (f r σ') σ' q L (.int r :: st)) : VV G κ (cl x f) σ pc L stk := by
  obtain ⟨⟨p, l, e, R, s, m, args, below, meth, c⟩, Q, A, H0, ⟨nL, nc, ns⟩, emb, r0⟩ := κ
  obtain ⟨hx, hb, hml, hown, hts, hK, hA, hcs, hR, hNw⟩ := hk
  subst hq
  obtain ⟨τ, he⟩ := he
  dsimp only at he
  subst he
  subst hst
  have hlv : lc < lv := Nat.le_of_ble_eq_true hlv
  have hsm : (st.map fun v => v.category).sum ≤ 8 := Nat.le_of_ble_eq_true hsm
  intro hx0 H locs ls h hP hD hS
  cases hxx : x with
  | none => rw [hxx] at hx0; cases hx0
  | some t =>
  obtain ⟨r, σ'⟩ := t
  rw [hxx] at hx0 hM
  replace hx0 : f r σ' = some r0 := hx0
  have hAA : ∀ q : Nat, va_A (wsG G (eb b τ σ)) H.size q → A q := fun q h9 => by
    rcases h9 with ⟨k9, e9, h9⟩ | h9
    · exact hD.2 k9 _ h9
    · exact hA q (Nat.le_trans hS.1 h9)
  have hm21 := hf.2.2.2
  refine va_calli (va_runSN (As := As) (rest := st) ⟨hx, hb, hml, hown, hts⟩ (hM l τ H.size r σ' rfl) ⟨⟨⟨rfl, rfl, by show lc + 1 + 1 ≤ R.frames; omega, by show 8 + (maxL + 11) + 40 * (lc + 1) ≤ R.locals; omega, pay_in hts (gi_of hf.1.2.2), List.mem_cons_self⟩, hts _ hf.1.2.2, hts _ hf.1.2.1, hf.2.1, fun sig h9 => by have h8 := hf.2.2.1; rw [h9] at h8; exact (Option.some.inj h8).symm, va_Nw.use rfl (hl ▸ hNw)⟩, hts _ hf.1.1, trivial⟩ ⟨PreW.blind, fun U hU hW => ⟨rfl, by rw [hU], by rw [hU]; exact hP, va_K.moved hW.alike hK, hD.weaken (fun _ _ _ _ => trivial), va_Nw.warmM hW hNw⟩⟩ rfl hn (h.1.trans rfl) rfl (lv_room hsm) d ⟨hcs.1, hcs.2⟩) hS (fun q _ h9 => hAA q h9) hAA (fun r1 u t H1 locs1 ht hvm hw hB hz1 hk1 hS1 => ?_)
  obtain ⟨rfl, rfl⟩ : r1 = r ∧ u = σ' := hw
  obtain ⟨hP1, hK1, hD1⟩ := hB
  rw [ht] at hP1
  exact kk _ _ hx0 H1 locs1 ls h hP1 (va_D_same hD (ws_ads G _ _)) hS1
theorem vv_staIrN {x : Option Int32} {f : Int32 → Option α} (q : Nat) (hk : KO G κ cc own lv) (he : KE b κ) (d : decode cc pc = .ok (.invokestatic ix, 3)) (hq : pc + 3 = q) (hl : nestW = Cond.methodLinkNest own ix y "NearNothing") (hf : SF y bytes maxL ret n) (hM : CtI G b y bytes maxL ret lc As (rdI x σ) σ) (hlv : Nat.blt lc lv = true) (hst : stk = As.reverse ++ st) (hn : As.length = n) (hsm : Nat.ble (st.map fun v => v.category).sum 8 = true) (kk : ∀ r, VV G κ (f r) σ q L (.int r :: st)) : VV G κ (cr x f) σ pc L stk := by
  obtain ⟨⟨p, l, e, R, s, m, args, below, meth, c⟩, Q, A, H0, ⟨nL, nc, ns⟩, emb, r0⟩ := κ
  obtain ⟨hx, hb, hml, hown, hts, hK, hA, hcs, hR, hNw⟩ := hk
  subst hq
  obtain ⟨τ, he⟩ := he
  dsimp only at he
  subst he
  subst hst
  have hlv : lc < lv := Nat.le_of_ble_eq_true hlv
  have hsm : (st.map fun v => v.category).sum ≤ 8 := Nat.le_of_ble_eq_true hsm
  intro hx0 H locs ls h hP hD hS
  cases hxx : x with
  | none => rw [hxx] at hx0; cases hx0
  | some r =>
  rw [hxx] at hx0 hM
  replace hx0 : f r = some r0 := hx0
  have hAA : ∀ q : Nat, va_A (wsG G (eb b τ σ)) H.size q → A q := fun q h9 => by
    rcases h9 with ⟨k9, e9, h9⟩ | h9
    · exact hD.2 k9 _ h9
    · exact hA q (Nat.le_trans hS.1 h9)
  have hm21 := hf.2.2.2
  refine va_calli (va_runSN (As := As) (rest := st) ⟨hx, hb, hml, hown, hts⟩ (hM l τ H.size r σ rfl) ⟨⟨⟨rfl, rfl, by show lc + 1 + 1 ≤ R.frames; omega, by show 8 + (maxL + 11) + 40 * (lc + 1) ≤ R.locals; omega, pay_in hts (gi_of hf.1.2.2), List.mem_cons_self⟩, hts _ hf.1.2.2, hts _ hf.1.2.1, hf.2.1, fun sig h9 => by have h8 := hf.2.2.1; rw [h9] at h8; exact (Option.some.inj h8).symm, va_Nw.use rfl (hl ▸ hNw)⟩, hts _ hf.1.1, trivial⟩ ⟨PreW.blind, fun U hU hW => ⟨rfl, by rw [hU], by rw [hU]; exact hP, va_K.moved hW.alike hK, hD.weaken (fun _ _ _ _ => trivial), va_Nw.warmM hW hNw⟩⟩ rfl hn (h.1.trans rfl) rfl (lv_room hsm) d ⟨hcs.1, hcs.2⟩) hS (fun q _ h9 => hAA q h9) hAA (fun r1 u t H1 locs1 ht hvm hw hB hz1 hk1 hS1 => ?_)
  obtain ⟨rfl, rfl⟩ : r1 = r ∧ u = σ := hw
  obtain ⟨hP1, hK1, hD1⟩ := hB
  rw [ht] at hP1
  exact kk _ hx0 H1 locs1 ls h hP1 (va_D_same hD (ws_ads G _ _)) hS1
end CALLS
