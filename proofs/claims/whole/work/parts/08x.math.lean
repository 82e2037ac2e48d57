section START
variable {G : GT} {b : Bool} {y : MethodName} {bytes : ByteArray} {maxL lv : Nat} {ret : Option FieldType} {av : List Value} {σ : Hp} {L0 : List (Option Value)}
theorem ctIrF {x : Option Int32} (hy : plainFor y = true) (hret : ret = some .int) (hen : enL av maxL = L0) (hlen : (L0.length, Nat.ble (lg_sl av).length maxL) = (maxL, true)) (body : ∀ κ : KT Hp Int32, KO G κ bytes y.cls lv → KE b κ → (∀ (v : Int32) (pc : Nat) (L : List (Option Value)), decode bytes pc = .ok (.ireturn, 1) → VV G κ (some v) σ pc L [.int v]) → VV G κ x σ 0 L0 []) : CtI G b y bytes maxL ret lv av (rdI x σ) σ := by
  subst hret
  intro l τ sz r σ' hx
  obtain ⟨hxs, rfl⟩ : x = some r ∧ σ = σ' := by
    unfold rdI at hx
    cases x with
    | none => cases hx
    | some v => simp at hx; exact ⟨by rw [hx.1], hx.2⟩
  refine va_MetF (cc := bytes) (maxL := maxL) hy rfl ?_
  intro p e s m args below meth c s₁ B hml hv
  obtain ⟨rfl, hsz, hP, hK, hD0, hNw⟩ := hv
  have hx := B.exec
  have hb := B.bytes
  have hr := B.returns
  have hts : ∀ w ∈ WT, w.before av.toArray s = true := fun w hw => atoms_spec (ws := Cond.code y bytes maxL (some .int) :: WT) B.pre w (List.mem_cons_of_mem _ hw)
  have hown : s.vm.findClass y.cls = some m.cls := findClass_of_methodNamed B.named
  have hlocks := B.notSynchronized
  subst hsz
  have hl := lv_entry av (n := maxL) (Nat.le_of_ble_eq_true (Prod.mk.inj hlen).2)
  rw [lg_entry_eq]
  generalize (lg_sl av ++ List.replicate (maxL - (lg_sl av).length) Slot.unset).toArray = ls at hl ⊢
  have hl' : lvL ls maxL L0 := ⟨hl.1, (Prod.mk.inj hlen).1, hl.2.1, fun i v hi => hl.2.2 (i, v) (by
    rw [← hen] at hi
    have h9 := enL_in av maxL 0 i v hi
    rwa [Nat.zero_add] at h9)⟩
  have hbody := body ((p, l, e, rmL lv, s, m, av.toArray, below, meth, c), MQ below (va_Qi (fun r0 (u : Hp) => r0 = r ∧ u = σ) (fun u t => PostW G (eb b τ σ) (eb b τ u) s.heap.size t) (va_A (wsG G (eb b τ σ)) s.heap.size)) av.toArray s 0 0 (va_A (wsG G (eb b τ σ)) s.heap.size), va_A (wsG G (eb b τ σ)) s.heap.size, s.heap, (maxL, 0, 0), eb b τ, r) ⟨hx, hb, hml, hown, hts, hK, fun q hq => Or.inr hq, ⟨Nat.zero_le _, Nat.zero_le _⟩, ⟨Nat.le_refl _, Nat.le_refl _⟩, hNw⟩ ⟨τ, rfl⟩ ?_ hxs s.heap [] ls hl' hP hD0.self va_S.rf
  · exact hbody
  · intro v pc L hd hx0 H locs ls1 hl1 hP1 hD1 hS1
    have e1 : v = r := Option.some.inj hx0
    have e2 : σ = σ := rfl
    exact W.iret hx hb hr (fun t ht hW => ⟨⟨v, σ, rfl, ⟨e1, e2⟩, by rw [ht]; exact hP1, va_K.moved hW.alike hK, hD1⟩, hS1.F ht⟩) hS1.2.2 hd
end START
section MATHR
variable {Ψ α : Type} {G : GT} {cc : ByteArray} {own : String} {lv pc ix : Nat} {L : List (Option Value)} {st : List Value} {κ : KT Ψ α} {x : Option α} {σ : Ψ}
theorem cw_math : Cond.initialized "java/lang/Math" ∈ WT := wt_of (List.mem_of_getElem? (i := 100) (by decide +kernel)) rfl
theorem cw_mmax : Cond.static Lib.Math.max.name ∈ WT ∧ Cond.code Lib.Math.max.name Lib.Math.max.code 2 (some .int) ∈ WT := ⟨wt_of (List.mem_of_getElem? (i := 940) (by decide +kernel)) rfl, wt_of (List.mem_of_getElem? (i := 941) (by decide +kernel)) rfl⟩
theorem vv_mmax {a b : Int32} (q : Nat) (hk : KO G κ cc own lv) (d : decode cc pc = .ok (.invokestatic ix, 3)) (hq : pc + 3 = q) (hl : Cond.methodLink own ix Lib.Math.max.name ∈ WT) (hsm : Nat.ble (st.map fun v => v.category).sum 8 = true) (k : VV G κ x σ q L (.int (if a < b then b else a) :: st)) : VV G κ x σ pc L (.int b :: .int a :: st) := by
  obtain ⟨⟨p, l, e, R, s, m, args, below, meth, c⟩, Q, A, H0, ⟨nL, nc, ns⟩, emb, r0⟩ := κ
  obtain ⟨hx, hb, hml, hown, hts, hK, hA, hcs, hR, hNw⟩ := hk
  subst hq
  have hsm : (st.map fun v => v.category).sum ≤ 8 := Nat.le_of_ble_eq_true hsm
  exact fun hx0 H locs ls h hP hD hS => va_mmax hx hb (hml.trans h.1.symm) hown (hts _ hl) (hts _ cw_mmax.1) (hts _ cw_math) (hts _ cw_mmax.2) (by omega) (by omega) hcs.1 hcs.2 d (k hx0 H locs ls h hP hD hS)
theorem cw_mmin : Cond.static Lib.Math.min.name ∈ WT ∧ Cond.code Lib.Math.min.name Lib.Math.min.code 2 (some .int) ∈ WT := ⟨wt_of (List.mem_of_getElem? (i := 943) (by decide +kernel)) rfl, wt_of (List.mem_of_getElem? (i := 944) (by decide +kernel)) rfl⟩
theorem vv_mmin {a b : Int32} (q : Nat) (hk : KO G κ cc own lv) (d : decode cc pc = .ok (.invokestatic ix, 3)) (hq : pc + 3 = q) (hl : Cond.methodLink own ix Lib.Math.min.name ∈ WT) (hsm : Nat.ble (st.map fun v => v.category).sum 8 = true) (k : VV G κ x σ q L (.int (if b < a then b else a) :: st)) : VV G κ x σ pc L (.int b :: .int a :: st) := by
  obtain ⟨⟨p, l, e, R, s, m, args, below, meth, c⟩, Q, A, H0, ⟨nL, nc, ns⟩, emb, r0⟩ := κ
  obtain ⟨hx, hb, hml, hown, hts, hK, hA, hcs, hR, hNw⟩ := hk
  subst hq
  have hsm : (st.map fun v => v.category).sum ≤ 8 := Nat.le_of_ble_eq_true hsm
  exact fun hx0 H locs ls h hP hD hS => va_mmin hx hb (hml.trans h.1.symm) hown (hts _ hl) (hts _ cw_mmin.1) (hts _ cw_math) (hts _ cw_mmin.2) (by omega) (by omega) hcs.1 hcs.2 d (k hx0 H locs ls h hP hD hS)
theorem cw_mminL : Cond.static Lib.MathLoose.min_long.x ∈ WT ∧ Cond.code Lib.MathLoose.min_long.x Lib.MathLoose.min_long.code 4 (some .long) ∈ WT := ⟨wt_of (List.mem_of_getElem? (i := 631) (by decide +kernel)) rfl, wt_of (List.mem_of_getElem? (i := 632) (by decide +kernel)) rfl⟩
theorem vv_mminL {a b : Int64} (q : Nat) (hk : KO G κ cc own lv) (d : decode cc pc = .ok (.invokestatic ix, 3)) (hq : pc + 3 = q) (hl : Cond.methodLink own ix Lib.MathLoose.min_long.x ∈ WT) (hsm : Nat.ble (st.map fun v => v.category).sum 8 = true) (k : VV G κ x σ q L (.long (if b < a then b else a) :: st)) : VV G κ x σ pc L (.long b :: .long a :: st) := by
  obtain ⟨⟨p, l, e, R, s, m, args, below, meth, c⟩, Q, A, H0, ⟨nL, nc, ns⟩, emb, r0⟩ := κ
  obtain ⟨hx, hb, hml, hown, hts, hK, hA, hcs, hR, hNw⟩ := hk
  subst hq
  have hsm : (st.map fun v => v.category).sum ≤ 8 := Nat.le_of_ble_eq_true hsm
  exact fun hx0 H locs ls h hP hD hS => va_mmin_long hx hb (hml.trans h.1.symm) hown (hts _ hl) (hts _ cw_mminL.1) (hts _ cw_math) (hts _ cw_mminL.2) (by omega) (by omega) hcs.1 hcs.2 d (k hx0 H locs ls h hP hD hS)
theorem cw_mabsL : Cond.static Lib.MathLoose.abs_long.x ∈ WT ∧ Cond.code Lib.MathLoose.abs_long.x Lib.MathLoose.abs_long.code 2 (some .long) ∈ WT := ⟨wt_of (List.mem_of_getElem? (i := 868) (by decide +kernel)) rfl, wt_of (List.mem_of_getElem? (i := 869) (by decide +kernel)) rfl⟩
theorem vv_mabsL {a : Int64} (q : Nat) (hk : KO G κ cc own lv) (d : decode cc pc = .ok (.invokestatic ix, 3)) (hq : pc + 3 = q) (hl : Cond.methodLink own ix Lib.MathLoose.abs_long.x ∈ WT) (hsm : Nat.ble (st.map fun v => v.category).sum 8 = true) (k : VV G κ x σ q L (.long (if 0 < a then a else -a) :: st)) : VV G κ x σ pc L (.long a :: st) := by
  obtain ⟨⟨p, l, e, R, s, m, args, below, meth, c⟩, Q, A, H0, ⟨nL, nc, ns⟩, emb, r0⟩ := κ
  obtain ⟨hx, hb, hml, hown, hts, hK, hA, hcs, hR, hNw⟩ := hk
  subst hq
  have hsm : (st.map fun v => v.category).sum ≤ 8 := Nat.le_of_ble_eq_true hsm
  exact fun hx0 H locs ls h hP hD hS => va_mabs_long hx hb (hml.trans h.1.symm) hown (hts _ hl) (hts _ cw_mabsL.1) (hts _ cw_math) (hts _ cw_mabsL.2) (by omega) (by omega) hcs.1 hcs.2 d (k hx0 H locs ls h hP hD hS)
end MATHR
