def va_AOA (ty : FieldType) (U : State) : Prop := (Cond.arrayOver (.array ty)).before #[] U = true
theorem va_AOA.use {ty : FieldType} {A : Array Value} {U : State} (h : va_AOA ty U) : (Cond.arrayOver (.array ty)).before A U = true := h
/-! ===== BEGIN new T[n][m]: the outer array a place, the inner ones among the pooled ===== -/
/-- f, but v at every address of l -/
def vr_up {α : Type} (f : Nat → α) (l : List Nat) (v : α) : Nat → α := fun a => if a ∈ l then v else f a
theorem vr_up_in {α : Type} {f : Nat → α} {l : List Nat} {v : α} {a : Nat} (h : a ∈ l) : vr_up f l v a = v := if_pos h
theorem vr_up_ne {α : Type} {f : Nat → α} {l : List Nat} {v : α} {a : Nat} (h : a ∉ l) : vr_up f l v a = f a := if_neg h
theorem vr_rows {L l : List Nat} {f : Nat → va_E} {e : va_E} (h : ∀ a, a ∈ l → a ∉ L) : va_pl L f ++ l.map (fun a => (a, e)) = va_pl (L ++ l) (vr_up f l e) := by
  unfold va_pl
  rw [List.map_append]
  congr 1
  · apply List.map_congr_left
    intro a ha
    rw [vr_up_ne (fun q => h a q ha)]
  · apply List.map_congr_left
    intro a ha
    rw [vr_up_in ha]
theorem vr_lay {X rows : va_W} {x : Nat × va_E} {pl : va_W} {D : va_G} {cl : List vw_C} {H : Heap} (hP : va_P D cl (((X ++ pl) ++ [x]) ++ rows) H) : va_P D cl ((X ++ [x]) ++ (pl ++ rows)) H := by
  rw [List.append_assoc (X ++ pl)] at hP
  have h := va_P.swap hP
  rw [← List.append_assoc X] at h
  have h2 := va_P.swap h
  rw [List.append_assoc (X ++ [x])] at h2
  exact h2
theorem vr_layD {X rows : va_W} {x : Nat × va_E} {pl : va_W} {A : Nat → Prop} (hD : va_D A (((X ++ pl) ++ [x]) ++ rows)) : va_D A ((X ++ [x]) ++ (pl ++ rows)) := by
  rw [List.append_assoc (X ++ pl)] at hD
  have h := va_D.swap hD
  rw [← List.append_assoc X] at h
  have h2 := va_D.swap h
  rw [List.append_assoc (X ++ [x])] at h2
  exact h2
theorem vr_outer (c : ClassId) (N h0 : Nat) : ∀ i : Nat, Jvm.Free.Multi.outerC c N h0 i = arrV c N (fun j => va_rf (if j < i then some (h0 + 1 + j) else none))
  | 0 => by
    show ({ cls := c, slots := Array.replicate N .null, vm := .none } : Cell) = _
    rw [arrV_new]
    refine congrArg (arrV c N) (funext fun j => ?_)
    simp [va_rf]
  | i + 1 => by
    show (Jvm.Free.Multi.outerC c N h0 i).setSlot i (.ref (h0 + 1 + i)) = _
    rw [vr_outer c N h0 i, arrV_store]
    refine congrArg (arrV c N) (funext fun j => ?_)
    by_cases e : j = i
    · subst e
      simp [updV, va_rf]
    · by_cases h : j < i
      · simp [updV, e, h, Nat.lt_succ_of_lt h]
      · simp [updV, e, h, show ¬ j < i + 1 by omega]
section VGM
variable {p : Program} {l : Launch} {e : Env} {R : Room} {s : State} {m : MethodId} {args : Array Value} {below : List Frame} {meth : Method} {c : Code} {H : Heap} {locs : List Loc} {cells slots : Nat} {Q : State → Prop}
variable {cc : ByteArray} {pc : Nat} {ls : Array Slot} {rest : List Value} {D : va_G} {cl : List vw_C} {A : Nat → Prop} {a : Nat} {tys : List (ClassId × FieldType)} {ws : va_W} {H0 : Heap}
theorem va_mna {X : va_W} {L : List Nat} {f : Nat → va_E} {cc : ByteArray} (hexec : p.tables.exec = Jvm.exec) (hb : c.code = cc) {own : String} {index : Nat} {ty : FieldType} {cy : ClassId} (hown : s.vm.findClass own = some m.cls) (hclink : (Cond.classLink own index ("[" ++ (FieldType.array ty).toString)).before args s = true) (hover : va_AOA ty s) (harr : (Cond.arrayClass ty).before args s = true) (hcy : s.vm.findClass (FieldType.array ty).toString = some cy)
    (hK : va_K D cl tys s) (hP : va_P D cl (X ++ va_pl L f) H) (hD : va_D A (X ++ va_pl L f)) (hS : va_S A H0 H locs) (hA : ∀ q, H0.size ≤ q → A q) {n k : Int32} {N' K' : Nat} {z : vp_A} (hn : ¬ n < 0) (hk : ¬ k < 0) (hN : n.toNatClampNeg = N') (hM : k.toNatClampNeg = K')
    (hb1 : N' * 4 ≤ 536870912) (hb2 : K' * componentBytes ty ≤ 536870912) (hb3 : K' ≤ 536870912) (hdf : fits ty (defaultValue ty) = true) (hdd : (defaultValue ty).isDefault = true) (hcells : cells + (1 + N') ≤ R.cells) (hslots : slots + (N' + N' * K') ≤ R.slots) (hz : ∀ c : ClassId, Jvm.Free.Multi.innerC c K' (defaultValue ty) = vp_cell c z) (hdg : decode cc pc = .ok (.multianewarray index 2, 4))
    (kk : ∀ (q : Nat) (r : Nat → Nat) (cA : ClassId) (H1 : Heap), (∀ i j : Nat, i < N' → j < N' → r i = r j → i = j) → (∀ i : Nat, i < N' → r i ∉ L) → va_K D cl (tys ++ [(cA, .array ty)]) s →
      va_P D cl ((X ++ [(q, .inl (cA, N', .inr (.inr (.inr (.inr (fun i => if i < N' then some (r i) else none))))))]) ++ va_pl (L ++ (List.range N').map r) (vr_up f ((List.range N').map r) (.inl (cy, z)))) H1 → va_D A ((X ++ [(q, .inl (cA, N', .inr (.inr (.inr (.inr (fun i => if i < N' then some (r i) else none))))))]) ++ va_pl (L ++ (List.range N').map r) (vr_up f ((List.range N').map r) (.inl (cy, z)))) → va_S A H0 H1 locs →
      W p l e R s m args below meth c H1 locs (cells + 1 + N') (slots + N' + N' * K') Q (F0 m (pc + 4) ls (.ref q :: rest))) : W p l e R s m args below meth c H locs cells slots Q (F0 m pc ls (.int k :: .int n :: rest)) := by
  subst hN
  subst hM
  intro T hT Xs
  obtain ⟨vm₁, cA, comp, -, fA, fC, hO, -, X', step⟩ := Xs.multianewarray2F hexec hown hclink (va_AOA.use hover) harr (g := F0 m pc ls (.int k :: .int n :: rest)) rfl (by rw [hb]; exact hdg) rfl hn hk hb1 hb2 hb3 hdf hdd hcells hslots
  have ec : some cy = some comp := hcy.symm.trans fC
  cases ec
  generalize hF : Jvm.Free.Multi.fill (T.setVm vm₁) cA cy n.toNatClampNeg k.toNatClampNeg (defaultValue ty) n.toNatClampNeg = F at X' step
  have hTh : (T.setVm vm₁).heap = H := hT
  obtain ⟨f1, f2, -, -⟩ := Jvm.Free.Multi.fill_facts (T.setVm vm₁) cA cy n.toNatClampNeg k.toNatClampNeg (defaultValue ty) n.toNatClampNeg
  rw [hF, hTh] at f1 f2
  have hold : ∀ x : Nat, x < H.size → F.heap[x]? = H[x]? := fun x hx => by
    have := Jvm.Free.Multi.fill_old (T.setVm vm₁) cA cy n.toNatClampNeg k.toNatClampNeg (defaultValue ty) (a := x) (by rw [hTh]; exact hx) n.toNatClampNeg
    rw [hF, hTh] at this
    exact this
  have hrow : ∀ j : Nat, j < n.toNatClampNeg → F.heap[H.size + 1 + j]? = some (vp_cell cy z) := fun j hj => by
    have := Jvm.Free.Multi.fill_inner (T.setVm vm₁) cA cy n.toNatClampNeg k.toNatClampNeg (defaultValue ty) n.toNatClampNeg j hj
    rw [hF, hTh, hz] at this
    exact this
  have hout : Jvm.Free.Multi.outerC cA n.toNatClampNeg H.size n.toNatClampNeg = vp_cell cA (n.toNatClampNeg, .inr (.inr (.inr (.inr (fun i => if i < n.toNatClampNeg then some (H.size + 1 + i) else none))))) := by
    rw [vp_cell_q]
    exact vr_outer cA n.toNatClampNeg H.size n.toNatClampNeg
  rw [hout] at f2
  have hlt : ∀ a, a ∈ L → a < H.size := fun a ha => by
    obtain ⟨k9, hk9⟩ := va_pl_get (X := X) (f := f) ha
    exact (hP k9 _ hk9).lt
  have hnl : ∀ i : Nat, i < n.toNatClampNeg → H.size + 1 + i ∉ L := fun i _ h => by
    have := hlt _ h
    omega
  have hnm : ∀ a, a ∈ (List.range n.toNatClampNeg).map (fun i => H.size + 1 + i) → a ∉ L := fun a ha h => by
    obtain ⟨i, -, rfl⟩ := List.mem_map.mp ha
    have := hlt _ h
    omega
  have hP0 : va_P D cl (X ++ va_pl L f) F.heap := hP.kept (fun k9 x hx => hold x.1 ((hP k9 x hx).lt))
  have hP1 : va_P D cl ((X ++ va_pl L f) ++ [(H.size, .inl (cA, n.toNatClampNeg, .inr (.inr (.inr (.inr (fun i => if i < n.toNatClampNeg then some (H.size + 1 + i) else none))))))]) F.heap := hP0.app (fun k9 x hx => by
    have h0 : k9 < 1 := (List.getElem?_eq_some_iff.mp hx).1
    rw [show k9 = 0 by omega] at hx
    cases hx
    exact f2)
  have hP2 : va_P D cl (((X ++ va_pl L f) ++ [(H.size, .inl (cA, n.toNatClampNeg, .inr (.inr (.inr (.inr (fun i => if i < n.toNatClampNeg then some (H.size + 1 + i) else none))))))]) ++ ((List.range n.toNatClampNeg).map (fun i => H.size + 1 + i)).map (fun a => (a, .inl (cy, z)))) F.heap := hP1.app (fun k9 x hx => by
    obtain ⟨a, ha, rfl⟩ := List.mem_map.mp (List.mem_of_getElem? hx)
    obtain ⟨i, hi, rfl⟩ := List.mem_map.mp ha
    exact hrow i (List.mem_range.mp hi))
  have hD2 : va_D A (((X ++ va_pl L f) ++ [(H.size, .inl (cA, n.toNatClampNeg, .inr (.inr (.inr (.inr (fun i => if i < n.toNatClampNeg then some (H.size + 1 + i) else none))))))]) ++ ((List.range n.toNatClampNeg).map (fun i => H.size + 1 + i)).map (fun a => (a, .inl (cy, z)))) := by
    have hD1 := hD.push (e := .inl (cA, n.toNatClampNeg, .inr (.inr (.inr (.inr (fun i => if i < n.toNatClampNeg then some (H.size + 1 + i) else none)))))) hP rfl (hA _ hS.1)
    generalize hW1 : (X ++ va_pl L f) ++ [(H.size, .inl (cA, n.toNatClampNeg, .inr (.inr (.inr (.inr (fun i => if i < n.toNatClampNeg then some (H.size + 1 + i) else none))))))] = W1 at hD1 hP1 ⊢
    have hle : ∀ (k9 : Nat) (x : Nat × va_E), W1[k9]? = some x → x.1 ≤ H.size := fun k9 x hx => by
      rw [← hW1] at hx
      by_cases hl : k9 < (X ++ va_pl L f).length
      · rw [List.getElem?_append_left hl] at hx
        exact Nat.le_of_lt ((hP k9 x hx).lt)
      · rw [List.getElem?_append_right (by omega)] at hx
        have h0 : k9 - (X ++ va_pl L f).length < 1 := (List.getElem?_eq_some_iff.mp hx).1
        rw [show k9 - (X ++ va_pl L f).length = 0 by omega] at hx
        cases hx
        exact Nat.le_refl _
    have hr : ∀ (k9 : Nat) (x : Nat × va_E), (((List.range n.toNatClampNeg).map (fun i => H.size + 1 + i)).map (fun a => ((a, .inl (cy, z)) : Nat × va_E)))[k9]? = some x → x.1 = H.size + 1 + k9 := fun k9 x hx => by
      rw [List.getElem?_map, List.getElem?_map] at hx
      by_cases h9 : k9 < n.toNatClampNeg
      · rw [List.getElem?_range h9] at hx
        cases hx
        rfl
      · have hn0 : (List.range n.toNatClampNeg)[k9]? = none := List.getElem?_eq_none (by rw [List.length_range]; omega)
        rw [hn0] at hx
        cases hx
    refine ⟨fun i j x y hi hj hxy => ?_, fun k9 x hx => ?_⟩
    · by_cases h1 : i < W1.length <;> by_cases h2 : j < W1.length
      · rw [List.getElem?_append_left h1] at hi
        rw [List.getElem?_append_left h2] at hj
        exact hD1.1 i j x y hi hj hxy
      · rw [List.getElem?_append_left h1] at hi
        rw [List.getElem?_append_right (by omega)] at hj
        have := hle _ _ hi
        have := hr _ _ hj
        omega
      · rw [List.getElem?_append_right (by omega)] at hi
        rw [List.getElem?_append_left h2] at hj
        have := hle _ _ hj
        have := hr _ _ hi
        omega
      · rw [List.getElem?_append_right (by omega)] at hi hj
        have := hr _ _ hi
        have := hr _ _ hj
        omega
    · by_cases h1 : k9 < W1.length
      · rw [List.getElem?_append_left h1] at hx
        exact hD1.2 k9 x hx
      · rw [List.getElem?_append_right (by omega)] at hx
        have := hr _ _ hx
        exact hA _ (by have := hS.1; omega)
  have hAr : ArrOfT s cA (.array ty) := fun N9 z9 => by
    obtain ⟨-, k9, hk9, cm9, hkk9⟩ := (hO 0 0 0).1
    exact ⟨(fun q hq => by cases hq), k9, hk9, cm9, hkk9⟩
  have hK2 : va_K D cl (tys ++ [(cA, .array ty)]) s := ⟨hK.1, fun k9 x hx => by
    by_cases hl : k9 < tys.length
    · rw [List.getElem?_append_left hl] at hx
      exact hK.2 k9 x hx
    · rw [List.getElem?_append_right (by omega)] at hx
      have h0 : k9 - tys.length < 1 := (List.getElem?_eq_some_iff.mp hx).1
      rw [show k9 - tys.length = 0 by omega] at hx
      cases hx
      exact ⟨hAr, fA⟩⟩
  obtain ⟨t, a1, b1⟩ := kk H.size (fun i => H.size + 1 + i) cA F.heap (fun i j _ _ h => by have h9 : H.size + 1 + i = H.size + 1 + j := h; omega) hnl hK2 (by rw [← vr_rows hnm]; exact vr_lay hP2) (by rw [← vr_rows hnm]; exact vr_layD hD2) ⟨by rw [f1]; have := hS.1; omega, fun x h1 h2 => (hold x (Nat.lt_of_lt_of_le h1 hS.1)).trans (hS.2.1 x h1 h2), hS.2.2⟩ F rfl X'
  refine ⟨t, step t ?_, b1⟩
  have e : T.heap.size = H.size := by rw [hT]
  rw [e]
  exact a1
end VGM

def nw_9 : Cond := .methodLinkNest RX11 9 yX5_init "NearNothing"
def nw_18 : Cond := .methodLinkNest RX11 18 yX4_init "NearNothing"
def nw_28 : Cond := .methodLinkNest RX11 28 yX0_init "NearNothing"
def nw_35 : Cond := .methodLinkNest RX11 35 yX6_init "NearNothing"
def nw_69 : Cond := .methodLinkNest RX11 69 yX2_init "NearNothing"
def NWs (U : State) : Prop := va_AOA .int U ∧ va_Nw nestW U ∧ va_Nw nw_9 U ∧ va_Nw nw_18 U ∧ va_Nw nw_28 U ∧ va_Nw nw_35 U ∧ va_Nw nw_69 U
theorem NWs.same {u U : State} (h : u.vm = U.vm) (z : NWs u) : NWs U := ⟨over_moved (by rw [h]; exact Vm.Alike.refl U.vm) z.1, va_Nw.same rfl h z.2.1, va_Nw.same rfl h z.2.2.1, va_Nw.same rfl h z.2.2.2.1, va_Nw.same rfl h z.2.2.2.2.1, va_Nw.same rfl h z.2.2.2.2.2.1, va_Nw.same rfl h z.2.2.2.2.2.2⟩
theorem NWs.warm {s U : State} (hW : s.WarmedH U.vm) (z : NWs s) : NWs U := ⟨over_moved hW.alike z.1, va_Nw.warmM hW z.2.1, va_Nw.warmM hW z.2.2.1, va_Nw.warmM hW z.2.2.2.1, va_Nw.warmM hW z.2.2.2.2.1, va_Nw.warmM hW z.2.2.2.2.2.1, va_Nw.warmM hW z.2.2.2.2.2.2⟩
/-! ===== the judgement of constructors: the world is a list, it grows ===== -/
abbrev KC : Type := KF × (State → Prop) × (Nat → Prop) × Heap × Nat
def VN (G : GT) (κ : KC) (ws : va_W) (nc ns pc : Nat) (L : List (Option Value)) (st : List Value) : Prop :=
  match κ with
  | ((p, l, e, R, s, m, args, below, meth, c), Q, A, H0, nL) => ∀ (H : Heap) (locs : List Loc) (ls : Array Slot), lvL ls nL L → va_P G.1 classes ws H → va_D A ws → va_S A H0 H locs → W p l e R s m args below meth c H locs nc ns Q (F0 m pc ls st)
def KN (G : GT) (κ : KC) (cc : ByteArray) (own : String) (lv mc ms : Nat) : Prop :=
  match κ with
  | ((p, l, e, R, s, m, args, below, meth, c), Q, A, H0, nL) => p.tables.exec = Jvm.exec ∧ c.code = cc ∧ c.maxLocals = nL ∧ s.vm.findClass own = some m.cls ∧ (∀ w ∈ WT, w.before args s = true) ∧ va_K G.1 classes (tysG G) s ∧ (∀ q : Nat, H0.size ≤ q → A q) ∧ (mc ≤ R.cells ∧ ms ≤ R.slots) ∧ (lv + 1 ≤ R.frames ∧ 40 * (lv + 1) ≤ R.locals) ∧ (¬ (own = "java/util/Arrays" ∨ own = "NearNothingLaw") → meth.name = "<init>") ∧ NWs s
section VNR
variable {G : GT} {κ : KC} {cc : ByteArray} {own : String} {lv mc ms nc ns pc : Nat} {ws : va_W} {L L' : List (Option Value)} {st : List Value}
theorem vn_iconst {n : Int} {v : Int32} (q : Nat) (hk : KN G κ cc own lv mc ms) (d : decode cc pc = .ok (.iconst n, 1)) (hq : pc + 1 = q) (hv : Int32.ofInt n = v) (k : VN G κ ws nc ns q L (.int v :: st)) : VN G κ ws nc ns pc L (st) := by
  obtain ⟨⟨p, l, e, R, s, m, args, below, meth, c⟩, Q, A, H0, nL⟩ := κ
  obtain ⟨hx, hb, hml, hown, hts, hK, hA, hcs, hR, hin, hNw⟩ := hk
  subst hq
  exact fun H locs ls hl hP hD hS => lv_iconst hx hb d hv (k H locs ls hl hP hD hS)
theorem vn_bipush {n : Int} {v : Int32} (q : Nat) (hk : KN G κ cc own lv mc ms) (d : decode cc pc = .ok (.bipush n, 2)) (hq : pc + 2 = q) (hv : (Int8.ofInt n).toInt32 = v) (k : VN G κ ws nc ns q L (.int v :: st)) : VN G κ ws nc ns pc L (st) := by
  obtain ⟨⟨p, l, e, R, s, m, args, below, meth, c⟩, Q, A, H0, nL⟩ := κ
  obtain ⟨hx, hb, hml, hown, hts, hK, hA, hcs, hR, hin, hNw⟩ := hk
  subst hq
  exact fun H locs ls hl hP hD hS => lv_bipush hx hb d hv (k H locs ls hl hP hD hS)
theorem vn_sipush {n : Int} {v : Int32} (q : Nat) (hk : KN G κ cc own lv mc ms) (d : decode cc pc = .ok (.sipush n, 3)) (hq : pc + 3 = q) (hv : (Int16.ofInt n).toInt32 = v) (k : VN G κ ws nc ns q L (.int v :: st)) : VN G κ ws nc ns pc L (st) := by
  obtain ⟨⟨p, l, e, R, s, m, args, below, meth, c⟩, Q, A, H0, nL⟩ := κ
  obtain ⟨hx, hb, hml, hown, hts, hK, hA, hcs, hR, hin, hNw⟩ := hk
  subst hq
  exact fun H locs ls hl hP hD hS => lv_sipush hx hb d hv (k H locs ls hl hP hD hS)
theorem vn_aload_n {j : Fin 4} {i a : Nat} (q : Nat) (hk : KN G κ cc own lv mc ms) (d : decode cc pc = .ok (.aload_n j, 1)) (hq : pc + 1 = q) (hi : (j : Nat) = i) (hL : L[i]? = some (some (.ref a))) (k : VN G κ ws nc ns q L (.ref a :: st)) : VN G κ ws nc ns pc L (st) := by
  obtain ⟨⟨p, l, e, R, s, m, args, below, meth, c⟩, Q, A, H0, nL⟩ := κ
  obtain ⟨hx, hb, hml, hown, hts, hK, hA, hcs, hR, hin, hNw⟩ := hk
  subst hq
  exact fun H locs ls hl hP hD hS => lv_aload_n hx hb d hi (hl.2.2.2 _ _ hL) (k H locs ls hl hP hD hS)
theorem vn_iload_n {j : Fin 4} {i : Nat} {a : Int32} (q : Nat) (hk : KN G κ cc own lv mc ms) (d : decode cc pc = .ok (.iload_n j, 1)) (hq : pc + 1 = q) (hi : (j : Nat) = i) (hL : L[i]? = some (some (.int a))) (k : VN G κ ws nc ns q L (.int a :: st)) : VN G κ ws nc ns pc L (st) := by
  obtain ⟨⟨p, l, e, R, s, m, args, below, meth, c⟩, Q, A, H0, nL⟩ := κ
  obtain ⟨hx, hb, hml, hown, hts, hK, hA, hcs, hR, hin, hNw⟩ := hk
  subst hq
  exact fun H locs ls hl hP hD hS => lv_iload_n hx hb d hi (hl.2.2.2 _ _ hL) (k H locs ls hl hP hD hS)
theorem vn_dup {u : Value} (q : Nat) (hk : KN G κ cc own lv mc ms) (d : decode cc pc = .ok (.dup, 1)) (hq : pc + 1 = q) (hu : u.category = 1) (k : VN G κ ws nc ns q L (u :: u :: st)) : VN G κ ws nc ns pc L (u :: st) := by
  obtain ⟨⟨p, l, e, R, s, m, args, below, meth, c⟩, Q, A, H0, nL⟩ := κ
  obtain ⟨hx, hb, hml, hown, hts, hK, hA, hcs, hR, hin, hNw⟩ := hk
  subst hq
  exact fun H locs ls hl hP hD hS => lv_dup hx hb d hu (k H locs ls hl hP hD hS)
theorem vn_istore_n {j : Fin 4} {i : Nat} {a : Int32} (q : Nat) (L' : List (Option Value)) (hk : KN G κ cc own lv mc ms) (d : decode cc pc = .ok (.istore_n j, 1)) (hq : pc + 1 = q) (hi : (j : Nat) = i) (hn : Nat.ble L.length i = false) (hs : st1 L i (.int a) = L') (k : VN G κ ws nc ns q L' st) : VN G κ ws nc ns pc L (.int a :: st) := by
  obtain ⟨⟨p, l, e, R, s, m, args, below, meth, c⟩, Q, A, H0, nL⟩ := κ
  obtain ⟨hx, hb, hml, hown, hts, hK, hA, hcs, hR, hin, hNw⟩ := hk
  subst hq
  subst hs
  intro H locs ls hl hP hD hS
  exact lv_istore_n hx hb d hi (lvL_has hl) (by rw [← hl.2.1]; exact Nat.lt_of_not_le fun w => by rw [Nat.ble_eq.mpr w] at hn; cases hn) rfl (fun ls' hl' => k H locs ls' (lvL_st1 hl.2.1 hl') hP hD hS)
theorem vn_astore_n {j : Fin 4} {i a : Nat} (q : Nat) (L' : List (Option Value)) (hk : KN G κ cc own lv mc ms) (d : decode cc pc = .ok (.astore_n j, 1)) (hq : pc + 1 = q) (hi : (j : Nat) = i) (hn : Nat.ble L.length i = false) (hs : st1 L i (.ref a) = L') (k : VN G κ ws nc ns q L' st) : VN G κ ws nc ns pc L (.ref a :: st) := by
  obtain ⟨⟨p, l, e, R, s, m, args, below, meth, c⟩, Q, A, H0, nL⟩ := κ
  obtain ⟨hx, hb, hml, hown, hts, hK, hA, hcs, hR, hin, hNw⟩ := hk
  subst hq
  subst hs
  intro H locs ls hl hP hD hS
  exact lv_astore_n hx hb d hi (lvL_has hl) (by rw [← hl.2.1]; exact Nat.lt_of_not_le fun w => by rw [Nat.ble_eq.mpr w] at hn; cases hn) rfl (fun ls' hl' => k H locs ls' (lvL_st1 hl.2.1 hl') hP hD hS)
theorem vn_iinc {i : Nat} {n : Int} {a v : Int32} (q : Nat) (L' : List (Option Value)) (hk : KN G κ cc own lv mc ms) (d : decode cc pc = .ok (.iinc i n, 3)) (hq : pc + 3 = q) (hL : L[i]? = some (some (.int a))) (hw : a + Int32.ofInt n = v) (hs : st1 L i (.int v) = L') (k : VN G κ ws nc ns q L' st) : VN G κ ws nc ns pc L st := by
  obtain ⟨⟨p, l, e, R, s, m, args, below, meth, c⟩, Q, A, H0, nL⟩ := κ
  obtain ⟨hx, hb, hml, hown, hts, hK, hA, hcs, hR, hin, hNw⟩ := hk
  subst hq
  subst hs
  intro H locs ls hl hP hD hS
  obtain ⟨j, hj⟩ := List.getElem?_of_mem (prs_in.mpr hL : (i, Value.int a) ∈ prs L)
  exact lv_iinc hx hb d (lvL_has hl) hj hw (by rw [← hl.2.1]; exact (List.getElem?_eq_some_iff.mp hL).1) rfl (fun ls' hl' => k H locs ls' (lvL_st1 hl.2.1 hl') hP hD hS)
theorem vn_goto {off : Int} (q : Nat) (hk : KN G κ cc own lv mc ms) (d : decode cc pc = .ok (.goto off, 3)) (ht : (pc : Int) + off = (q : Int)) (k : VN G κ ws nc ns q L st) : VN G κ ws nc ns pc L st := by
  obtain ⟨⟨p, l, e, R, s, m, args, below, meth, c⟩, Q, A, H0, nL⟩ := κ
  obtain ⟨hx, hb, hml, hown, hts, hK, hA, hcs, hR, hin, hNw⟩ := hk
  exact fun H locs ls hl hP hD hS => lv_goto hx hb d ht (k H locs ls hl hP hD hS)
theorem vn_geT {off : Int} {a b : Int32} (t : Nat) (hk : KN G κ cc own lv mc ms) (d : decode cc pc = .ok (.if_icmp .ge off, 3)) (ht : (pc : Int) + off = (t : Int)) (h : decide (b ≤ a) = true) (k : VN G κ ws nc ns t L st) : VN G κ ws nc ns pc L (.int b :: .int a :: st) := by
  obtain ⟨⟨p, l, e, R, s, m, args, below, meth, c⟩, Q, A, H0, nL⟩ := κ
  obtain ⟨hx, hb, hml, hown, hts, hK, hA, hcs, hR, hin, hNw⟩ := hk
  exact fun H locs ls hl hP hD hS => lv_icmp_ge hx hb d ht (fun _ => k H locs ls hl hP hD hS) (fun h9 => absurd (of_decide_eq_true h) h9)
theorem vn_geF {off : Int} {a b : Int32} {t : Nat} (q : Nat) (hk : KN G κ cc own lv mc ms) (d : decode cc pc = .ok (.if_icmp .ge off, 3)) (ht : (pc : Int) + off = (t : Int)) (hq : pc + 3 = q) (h : decide (b ≤ a) = false) (k : VN G κ ws nc ns q L st) : VN G κ ws nc ns pc L (.int b :: .int a :: st) := by
  obtain ⟨⟨p, l, e, R, s, m, args, below, meth, c⟩, Q, A, H0, nL⟩ := κ
  obtain ⟨hx, hb, hml, hown, hts, hK, hA, hcs, hR, hin, hNw⟩ := hk
  subst hq
  exact fun H locs ls hl hP hD hS => lv_icmp_ge hx hb d ht (fun h9 => absurd h9 (of_decide_eq_false h)) (fun _ => k H locs ls hl hP hD hS)
theorem vn_obj {a ix : Nat} (q : Nat) (hk : KN G κ cc own lv mc ms) (d : decode cc pc = .ok (.invokespecial ix, 3)) (hq : pc + 3 = q) (hl : Cond.methodLink own ix objectInit ∈ WT) (hlv : Nat.blt 0 lv = true) (hsm : (st = [])) (hnc : Nat.ble nc mc = true) (hns : Nat.ble ns ms = true) (k : VN G κ ws nc ns q L st) : VN G κ ws nc ns pc L (.ref a :: st) := by
  obtain ⟨⟨p, l, e, R, s, m, args, below, meth, c⟩, Q, A, H0, nL⟩ := κ
  obtain ⟨hx, hb, hml, hown, hts, hK, hA, hcs, hR, hin, hNw⟩ := hk
  subst hq
  subst hsm
  have hlv : 0 < lv := Nat.le_of_ble_eq_true hlv
  have hnc : nc ≤ mc := Nat.le_of_ble_eq_true hnc
  have hns : ns ≤ ms := Nat.le_of_ble_eq_true hns
  intro H locs ls h hP hD hS
  refine W.objInit hx hb hown (hts _ hl) (hts _ cw_obj.1) (hts _ cw_obj.2) rfl (by rw [hml]; exact h.1) rfl d (by omega) (by show 2 * 0 + 0 + 12 ≤ R.locals; omega) ?_
  exact W.eq (g2 := F0 m (pc + 3) ls []) rfl (k H locs ls h hP hD hS)
theorem vn_newa {atype : ArrayType} {t N : Nat} {ty : FieldType} {n : Int32} {a0 : vp_A} (q : Nat) (ws' : Nat → va_W) (hk : KN G κ cc own lv mc ms) (d : decode cc pc = .ok (.newarray atype, 2)) (hq : pc + 2 = q) (hty : newarray.typeOf atype = ty) (hw : Cond.arrayClass ty ∈ WT) (htag : (tysG G)[t]? = some (G.2.2 t, ty)) (hra : ∀ (U : State) cA, va_RA U cA ty → U.vm.findClass ("[" ++ ty.toString) = some cA) (ha : ∀ cA : ClassId, vp_cell cA a0 = arrV cA N (fun _ => defaultValue ty)) (hn : decide (n < 0) = false) (hN : n.toNatClampNeg = N) (hb2 : Nat.ble (N * componentBytes ty) 536870912 = true) (hc : Nat.ble (nc + 1) mc = true) (hs : Nat.ble (ns + N) ms = true) (hws : ∀ h, ws ++ [(h, .inl (G.2.2 t, a0))] = ws' h) (k : ∀ h, VN G κ (ws' h) (nc + 1) (ns + N) q L (.ref h :: st)) : VN G κ ws nc ns pc L (.int n :: st) := by
  obtain ⟨⟨p, l, e, R, s, m, args, below, meth, c⟩, Q, A, H0, nL⟩ := κ
  obtain ⟨hx, hb, hml, hown, hts, hK, hA, hcs, hR, hin, hNw⟩ := hk
  subst hq
  intro H locs ls h hP hD hS
  have hc := Nat.le_of_ble_eq_true hc
  have hs := Nat.le_of_ble_eq_true hs
  refine va_newa (D := G.1) (cl := classes) hx hb (by rw [hty]; exact hts _ hw) hty hK hP hD hS hA ha (of_decide_eq_false hn) hN (Nat.le_of_ble_eq_true hb2) (by omega) (by omega) d (fun a cA H1 hK1 hP1 hD1 hS1 => ?_)
  have e1 := hra s _ (hK.2 t _ htag).2
  have e2 := hra s _ (hK1.2 4 (cA, ty) rfl).2
  have e3 : cA = G.2.2 t := Option.some.inj (e2.symm.trans e1)
  subst e3
  rw [hws] at hP1 hD1
  exact k a H1 locs ls h hP1 hD1 hS1
theorem vn_putR {a v j k0 ci ix N : Nat} {fs : List Value} {C : String} {T : u_T} {ty : Nat → FieldType} (q : Nat) (ws' : va_W) (hk : KN G κ cc own lv mc ms) (d : decode cc pc = .ok (.putfield ix, 3)) (hq : pc + 3 = q) (he : ws[k0]? = some (a, .inr (ci, fs))) (hc : CI ci C T N ty) (hj : Nat.blt j N = true) (hl : Cond.fieldLink own ix (T j).1 (T j).2.1 (T j).2.2.1 ∈ WT) (hfin : (T j).2.2.2 = true) (hdecl : (T j).1 = own) (hna : ¬ (own = "java/util/Arrays" ∨ own = "NearNothingLaw")) (hfit : fits (ty j) (.ref v) = true) (hnar : narrow (ty j) (.ref v) = .ref v) (hlen : Nat.blt j fs.length = true) (hws : ws.set k0 (a, .inr (ci, fs.set j (.ref v))) = ws') (k : VN G κ ws' nc ns q L st) : VN G κ ws nc ns pc L (.ref v :: .ref a :: st) := by
  obtain ⟨⟨p, l, e, R, s, m, args, below, meth, c⟩, Q, A, H0, nL⟩ := κ
  obtain ⟨hx, hb, hml, hown, hts, hK, hA, hcs, hR, hin, hNw⟩ := hk
  subst hq
  subst hws
  have hj : j < N := Nat.le_of_ble_eq_true hj
  intro H locs ls h hP hD hS
  exact va_putF (D := G.1) (cl := classes) (v := .ref v) (ty := ty j) hx hb hts hc.2.1 ty hc.2.2.1 hc.2.2.2 hown hK hP hD hS k0 he hc.1 j hj (hts _ hl) (fun _ h9 => h9) hfin (hin hna) hdecl (hc.2.2.1 j hj) hnar hfit (Nat.le_of_ble_eq_true hlen) d (fun H1 locs1 hP1 hD1 hS1 => k H1 locs1 ls h hP1 hD1 hS1)
theorem vn_get {a v j k0 ci ix N : Nat} {fs : List Value} {C : String} {T : u_T} {ty : Nat → FieldType} (q : Nat) (hk : KN G κ cc own lv mc ms) (d : decode cc pc = .ok (.getfield ix, 3)) (hq : pc + 3 = q) (he : ws[k0]? = some (a, .inr (ci, fs))) (hc : CI ci C T N ty) (hj : Nat.blt j N = true) (hl : Cond.fieldLink own ix (T j).1 (T j).2.1 (T j).2.2.1 ∈ WT) (hv : fs[j]? = some (.ref v)) (k : VN G κ ws nc ns q L (.ref v :: st)) : VN G κ ws nc ns pc L (.ref a :: st) := by
  obtain ⟨⟨p, l, e, R, s, m, args, below, meth, c⟩, Q, A, H0, nL⟩ := κ
  obtain ⟨hx, hb, hml, hown, hts, hK, hA, hcs, hR, hin, hNw⟩ := hk
  subst hq
  have hj : j < N := Nat.le_of_ble_eq_true hj
  exact fun H locs ls h hP hD hS => va_get (D := G.1) (cl := classes) (v := .ref v) hx hb hts hc.2.1 hown hK hP k0 he hc.1 j hj (hts _ hl) (fun _ h9 => h9) hv d (k H locs ls h hP hD hS)
theorem vn_iast {a k0 n j : Nat} {f : Nat → Int32} {i v : Int32} (q : Nat) (ws' : va_W) (hk : KN G κ cc own lv mc ms) (d : decode cc pc = .ok (.iastore, 1)) (hq : pc + 1 = q) (he : ws[k0]? = some (a, .inl (G.2.2 0, n, .inl f))) (hi : decide (i < 0 ∨ n ≤ i.toNatClampNeg) = false) (hj : i.toNatClampNeg = j) (hws : ws.set k0 (a, .inl (G.2.2 0, n, .inl (upd f j v))) = ws') (k : VN G κ ws' nc ns q L st) : VN G κ ws nc ns pc L (.int v :: .int i :: .ref a :: st) := by
  obtain ⟨⟨p, l, e, R, s, m, args, below, meth, c⟩, Q, A, H0, nL⟩ := κ
  obtain ⟨hx, hb, hml, hown, hts, hK, hA, hcs, hR, hin, hNw⟩ := hk
  subst hq
  subst hws
  subst hj
  intro H locs ls h hP hD hS
  exact va_iast (D := G.1) (cl := classes) hx hb hK hP hD hS k0 0 he rfl (in_of (of_decide_eq_false hi)) d (fun H1 locs1 hP1 hD1 hS1 => k H1 locs1 ls h hP1 hD1 hS1)
theorem vn_alen {a k0 n : Nat} {f : Nat → Int32} {v : Int32} (q : Nat) (hk : KN G κ cc own lv mc ms) (d : decode cc pc = .ok (.arraylength, 1)) (hq : pc + 1 = q) (he : ws[k0]? = some (a, .inl (G.2.2 0, n, .inl f))) (hv : Int32.ofNat n = v) (k : VN G κ ws nc ns q L (.int v :: st)) : VN G κ ws nc ns pc L (.ref a :: st) := by
  obtain ⟨⟨p, l, e, R, s, m, args, below, meth, c⟩, Q, A, H0, nL⟩ := κ
  obtain ⟨hx, hb, hml, hown, hts, hK, hA, hcs, hR, hin, hNw⟩ := hk
  subst hq
  exact fun H locs ls h hP hD hS => va_alen (D := G.1) (cl := classes) hx hb hK hP k0 0 he rfl hv d (k H locs ls h hP hD hS)
theorem vn_new {ix ci N : Nat} {C : String} {T : u_T} {ty : Nat → FieldType} {fs : List Value} (q : Nat) (ws' : Nat → va_W) (hk : KN G κ cc own lv mc ms) (d : decode cc pc = .ok (.new ix, 3)) (hq : pc + 3 = q) (hc : CI ci C T N ty) (hl : Cond.classLink own ix C ∈ WT) (hi : Cond.instantiable C N ∈ WT ∧ Cond.initialized C ∈ WT) (hfs : ∀ j, j < N → defaultValue (ty j) = vp_V fs j) (hc1 : Nat.ble (nc + 1) mc = true) (hs1 : Nat.ble (ns + N) ms = true) (hws : ∀ h, ws ++ [(h, .inr (ci, fs))] = ws' h) (k : ∀ h, VN G κ (ws' h) (nc + 1) (ns + N) q L (.ref h :: st)) : VN G κ ws nc ns pc L st := by
  obtain ⟨⟨p, l, e, R, s, m, args, below, meth, c⟩, Q, A, H0, nL⟩ := κ
  obtain ⟨hx, hb, hml, hown, hts, hK, hA, hcs, hR, hin, hNw⟩ := hk
  subst hq
  intro H locs ls h hP hD hS
  have hc2 := Nat.le_of_ble_eq_true hc1
  have hs2 := Nat.le_of_ble_eq_true hs1
  refine va_new (D := G.1) (cl := classes) hx hb hts hc.2.1 ty hc.2.2.1 hown (hts _ hl) (hts _ hi.1) (hts _ hi.2) hK hP hD hS hA hc.1 hfs (by omega) (by omega) d (fun a H1 hP1 hD1 hS1 => ?_)
  rw [hws] at hP1 hD1
  exact k a H1 locs ls h hP1 hD1 hS1
theorem vn_mna {ix : Nat} {n k2 : Int32} {N K : Nat} (q : Nat) (hk : KN G κ cc own lv mc ms) (d : decode cc pc = .ok (.multianewarray ix 2, 4)) (hq : pc + 4 = q) (hl : Cond.classLink own ix "[[I" ∈ WT) (hn : decide (n < 0) = false) (hk2 : decide (k2 < 0) = false) (hN : n.toNatClampNeg = N) (hK2 : k2.toNatClampNeg = K) (hb1 : Nat.ble (N * 4) 536870912 = true) (hb2 : Nat.ble (K * 4) 536870912 = true) (hc1 : Nat.ble (nc + (1 + N)) mc = true) (hs1 : Nat.ble (ns + (N + N * K)) ms = true) (k : ∀ (h : Nat) (r : Nat → Nat), VN G κ (ws ++ [(h, .inl (G.2.2 3, N, .inr (.inr (.inr (.inr (fun i => if i < N then some (r i) else none))))))] ++ (List.range N).map (fun i => (r i, .inl (G.2.2 0, K, .inl (fun _ => 0))))) (nc + 1 + N) (ns + N + N * K) q L (.ref h :: st)) : VN G κ ws nc ns pc L (.int k2 :: .int n :: st) := by
  obtain ⟨⟨p, l, e, R, s, m, args, below, meth, c⟩, Q, A, H0, nL⟩ := κ
  obtain ⟨hx, hb, hml, hown, hts, hK, hA, hcs, hR, hin, hNw⟩ := hk
  subst hq
  intro H locs ls h hP hD hS
  have hb1 := Nat.le_of_ble_eq_true hb1
  have hb2 := Nat.le_of_ble_eq_true hb2
  have hc1 := Nat.le_of_ble_eq_true hc1
  have hs1 := Nat.le_of_ble_eq_true hs1
  have hP' : va_P G.1 classes (ws ++ va_pl [] (fun _ => .inl (0, (0, .inl (fun _ => 0))))) H := by show va_P _ _ (ws ++ []) H; rw [List.append_nil]; exact hP
  have hD' : va_D A (ws ++ va_pl [] (fun _ => .inl (0, (0, .inl (fun _ => 0))))) := by show va_D _ (ws ++ []); rw [List.append_nil]; exact hD
  refine va_mna (D := G.1) (cl := classes) (ty := .int) (cy := G.2.2 0) (z := (K, .inl (fun _ => 0))) hx hb hown (hts _ hl) hNw.1 (hts _ ac_int) (hK.2 0 _ rfl).2 hK hP' hD' hS hA (of_decide_eq_false hn) (of_decide_eq_false hk2) hN hK2 hb1 hb2 (by omega) rfl rfl (by omega) (by omega) (fun c9 => ?_) d (fun h9 r cA H1 hr _ hK1 hP1 hD1 hS1 => ?_)
  · exact arrV_new c9 K (.int 0)
  · have e1 : cA = G.2.2 3 := Option.some.inj ((hK1.2 4 (cA, .array .int) rfl).2.symm.trans (hK.2 3 _ rfl).2)
    subst e1
    have e2 : va_pl ([] ++ (List.range N).map r) (vr_up (fun _ => (.inl (0, (0, .inl (fun _ => 0))) : va_E)) ((List.range N).map r) (.inl (G.2.2 0, (K, .inl (fun _ => 0))))) = (List.range N).map (fun i => (r i, (.inl (G.2.2 0, K, .inl (fun _ => 0)) : va_E))) := by
      rw [← vr_rows (by simp)]
      show [] ++ _ = _
      rw [List.nil_append, List.map_map]
      rfl
    rw [e2] at hP1 hD1
    exact k h9 r H1 locs ls h hP1 hD1 hS1
theorem vn_eq {ws' : va_W} (e : ws = ws') (k : VN G κ ws' nc ns pc L st) : VN G κ ws nc ns pc L st := e ▸ k
theorem vn_cs {nc' ns' : Nat} (e1 : nc = nc') (e2 : ns = ns') (k : VN G κ ws nc' ns' pc L st) : VN G κ ws nc ns pc L st := by subst e1; subst e2; exact k
end VNR
abbrev rmN (lv mc ms : Nat) : Room := { frames := lv + 1, cells := mc, slots := ms, locals := 40 * (lv + 1) }
def PreN (G : GT) (wc : va_W) (sz : Nat) (U : State) : Prop := U.heap.size = sz ∧ va_P G.1 classes wc U.heap ∧ va_K G.1 classes (tysG G) U ∧ va_D (fun _ => True) wc ∧ NWs U
theorem PreN.blind {G : GT} {wc : va_W} {sz : Nat} {av : List Value} : FrameBlind (va_Pc av (PreN G wc sz)) := fun a U g mk q => ⟨q.1, q.2.1, q.2.2.1, va_K.moved (u := U) (U := U.calling g mk a) (Vm.Alike.refl U.vm) q.2.2.2.1, q.2.2.2.2.1, NWs.same rfl q.2.2.2.2.2⟩
def CtN {S : Type} (G : GT) (y : MethodName) (bytes : ByteArray) (maxL lv mc ms : Nat) (av : List Value) (wc : va_W) (B : S → va_W) : Prop :=
  ∀ (l : Launch) (sz : Nat), Met l y (Cond.code y bytes maxL none :: WT) (rmN lv mc ms) (va_Pc av (PreN G wc sz)) (va_Qv (fun _ : S => True) (fun u t => va_P G.1 classes (B u) t.heap ∧ va_K G.1 classes (tysG G) t ∧ va_D (va_A wc sz) (B u)) (va_A wc sz)) mc ms (va_A wc sz)
theorem ctN {S : Type} {G : GT} {y : MethodName} {bytes : ByteArray} {maxL lv mc ms : Nat} {av : List Value} {wc : va_W} {B : S → va_W} {L0 : List (Option Value)} (hy : plainName y.cls = true) (hini : ¬ (y.cls = "java/util/Arrays" ∨ y.cls = "NearNothingLaw") → y.name = "<init>") (hen : enL av maxL = L0) (hlen : (L0.length, Nat.ble (lg_sl av).length maxL) = (maxL, true))
    (body : ∀ κ : KC, KN G κ bytes y.cls lv mc ms → (∀ (u : S) (pc : Nat) (L : List (Option Value)), decode bytes pc = .ok (.return_, 1) → VN G κ (B u) mc ms pc L []) → VN G κ wc 0 0 0 L0 []) : CtN G y bytes maxL lv mc ms av wc B := by
  intro l sz
  refine Met.ofW (cc := bytes) (maxL := maxL) hy rfl ?_
  intro p e s m args below meth c s₁ B9 hml hv
  obtain ⟨rfl, hsz, hP, hK, hD0, hNw⟩ := hv
  have hx := B9.exec
  have hb := B9.bytes
  have hr := B9.returns
  have hts : ∀ w ∈ WT, w.before av.toArray s = true := fun w hw => atoms_spec (ws := Cond.code y bytes maxL none :: WT) B9.pre w (List.mem_cons_of_mem _ hw)
  have hown : s.vm.findClass y.cls = some m.cls := findClass_of_methodNamed B9.named
  have hin : meth.name = y.name := (name_of_methodNamed B9.named B9.method).1
  have hlocks := B9.notSynchronized
  subst hsz
  have hl := lv_entry av (n := maxL) (Nat.le_of_ble_eq_true (Prod.mk.inj hlen).2)
  rw [lg_entry_eq]
  generalize (lg_sl av ++ List.replicate (maxL - (lg_sl av).length) Slot.unset).toArray = ls at hl ⊢
  have hl' : lvL ls maxL L0 := ⟨hl.1, (Prod.mk.inj hlen).1, hl.2.1, fun i v hi => hl.2.2 (i, v) (by
    rw [← hen] at hi
    have h9 := enL_in av maxL 0 i v hi
    rwa [Nat.zero_add] at h9)⟩
  have hbody := body ((p, l, e, rmN lv mc ms, s, m, av.toArray, below, meth, c), MQ below (va_Qv (fun _ : S => True) (fun u t => va_P G.1 classes (B u) t.heap ∧ va_K G.1 classes (tysG G) t ∧ va_D (va_A wc s.heap.size) (B u)) (va_A wc s.heap.size)) av.toArray s mc ms (va_A wc s.heap.size), va_A wc s.heap.size, s.heap, maxL) ⟨hx, hb, hml, hown, hts, hK, fun q hq => Or.inr hq, ⟨Nat.le_refl _, Nat.le_refl _⟩, ⟨Nat.le_refl _, Nat.le_refl _⟩, fun h9 => hin.trans (hini h9), hNw⟩ ?_ s.heap [] ls hl' hP hD0.self va_S.rf
  · exact hbody
  · intro u pc L hd H locs ls1 hl1 hP1 hD1 hS1
    exact W.vret hx hb hr (fun t ht hW => ⟨⟨u, rfl, trivial, by rw [ht]; exact hP1, va_K.moved hW.alike hK, hD1⟩, hS1.F ht⟩) hS1.2.2 hd
section VNC
variable {S : Type} {G : GT} {κ : KC} {cc bytes : ByteArray} {own : String} {lv lc mc ms mcC msC nc ns pc maxL n ix k0 a : Nat} {y : MethodName} {e0 : va_E} {ws wr : va_W} {B : S → va_W} {L : List (Option Value)} {st stk As : List Value}
theorem vn_after (q : Nat) (isR : List Nat) (hk : KN G κ cc own lv mc ms) (hst : stk = stk) (he : ws[k0]? = some (a, e0)) (hR : isR.map (fun i => ws[i]?) = wr.map some) (hnd : va_nd isR = true) (hdis : ∀ i ∈ isR, i ∉ [k0])
    (run : ∀ (H : Heap) (locs : List Loc) (ls : Array Slot), lvL ls κ.2.2.2.2 L → va_P G.1 classes ws H → va_D κ.2.2.1 ws → va_S κ.2.2.1 κ.2.2.2.1 H locs → va_Run κ.1.1 κ.1.2.1 κ.1.2.2.1 κ.1.2.2.2.1 κ.1.2.2.2.2.1 κ.1.2.2.2.2.2.1 κ.1.2.2.2.2.2.2.1 κ.1.2.2.2.2.2.2.2.1 κ.1.2.2.2.2.2.2.2.2.1 κ.1.2.2.2.2.2.2.2.2.2 H locs nc ns mcC msC (F0 κ.1.2.2.2.2.2.1 pc ls stk) st (va_Qv (fun _ : S => True) (fun u t => va_P G.1 classes (B u) t.heap ∧ va_K G.1 classes (tysG G) t ∧ va_D (va_A [(a, e0)] H.size) (B u)) (va_A [(a, e0)] H.size) κ.1.2.2.2.2.2.2.1) (va_A [(a, e0)] H.size))
    (kk : ∀ u, VN G κ (wr ++ B u) (nc + mcC) (ns + msC) (pc + 3) L st) : VN G κ ws nc ns pc L stk := by
  obtain ⟨⟨p, l, e, R, s, m, args, below, meth, c⟩, Q, A, H0, nL⟩ := κ
  obtain ⟨hx, hb, hml, hown, hts, hK, hA, hcs, hRm, hin, hNw⟩ := hk
  dsimp only at run
  intro H locs ls h hP hD hS
  have hC : [k0].map (fun i => ws[i]?) = [(a, e0)].map some := by simp [he]
  have hF := va_free (wc := [(a, e0)]) hD hS hA [k0] hC
  refine va_callv (run H locs ls h hP hD hS) hS (fun q _ h9 => hF q h9) hF (fun u t H1 locs1 ht hvm hw hB hz1 hk1 hS1 => ?_)
  obtain ⟨hP1, hK1, hD1⟩ := hB
  rw [ht] at hP1
  obtain ⟨hP2, hD2⟩ := va_join (wr := wr) (w1 := B u) hP hD [k0] isR hC hR hnd hdis hk1 hF hP1 hD1
  exact kk u H1 locs1 ls h hP2 hD2 hS1
theorem cbN_of {R : Room} {s : State} {args : Array Value} (hts : ∀ w ∈ WT, w.before args s = true) (hini : Cond.initialized y.cls ∈ WT) (hcode : Cond.code y bytes maxL none ∈ WT) (hne : y.cls ≠ "java/lang/invoke/MethodHandle" ∧ y.cls ≠ "java/lang/invoke/VarHandle") (hn : (parseMethodDescriptor y.desc).map (fun d => d.parameters.length) = some n) (hm : maxL ≤ 21) (hl : Cond.methodLink own ix y ∈ WT) (hlv : lc < lv) (hR : lv + 1 ≤ R.frames ∧ 40 * (lv + 1) ≤ R.locals) : CallB R s args own ix y bytes maxL none (Cond.code y bytes maxL none :: WT) (rmN lc mcC msC) mcC msC n := by
  refine ⟨rfl, rfl, ?_, ?_, pay_in hts (gi_of hcode), List.mem_cons_self, hts _ hcode, hts _ hini, hne, fun sig h => ?_, hts _ hl⟩
  · show lc + 1 + 1 ≤ R.frames
    omega
  · show 8 + (maxL + 11) + 40 * (lc + 1) ≤ R.locals
    omega
  · rw [h] at hn
    exact (Option.some.inj hn).symm
/-- a constructor that is linked plainly -/
theorem vn_ctor (q : Nat) (isR : List Nat) (hk : KN G κ cc own lv mc ms) (d : decode cc pc = .ok (.invokespecial ix, 3)) (hq : pc + 3 = q) (hl : Cond.methodLink own ix y ∈ WT) (hi : Cond.initialized y.cls ∈ WT) (hf : (Cond.instanceMethod y ∈ WT ∧ Cond.code y bytes maxL none ∈ WT) ∧ (parseMethodDescriptor y.desc).map (fun d => d.parameters.length) = some n) (hne : y.cls ≠ "java/lang/invoke/MethodHandle" ∧ y.cls ≠ "java/lang/invoke/VarHandle") (hyn : y.name = "<init>") (hM : CtN G y bytes maxL lc mcC msC (.ref a :: As) [(a, e0)] B) (hlv : Nat.blt lc lv = true) (hm : Nat.ble maxL 21 = true) (hst : stk = As.reverse ++ .ref a :: st) (hn : As.length = n) (hsm : Nat.ble (st.map fun v => v.category).sum 8 = true) (hc1 : Nat.ble (nc + mcC) mc = true) (hs1 : Nat.ble (ns + msC) ms = true) (he : ws[k0]? = some (a, e0)) (hR : isR.map (fun i => ws[i]?) = wr.map some) (hnd : va_nd isR = true) (hdis : ∀ i ∈ isR, i ∉ [k0]) (kk : ∀ u, VN G κ (wr ++ B u) (nc + mcC) (ns + msC) q L st) : VN G κ ws nc ns pc L stk := by
  subst hq
  refine vn_after (pc + 3) isR hk rfl he hR hnd hdis ?_ kk
  obtain ⟨⟨p, l, e, R, s, m, args, below, meth, c⟩, Q, A, H0, nL⟩ := κ
  obtain ⟨hx, hb, hml, hown, hts, hK, hA, hcs, hR, hin, hNw⟩ := hk
  subst hst
  intro H locs ls h hP hD hS
  dsimp only at h hP hD hS ⊢
  have hlv : lc < lv := Nat.le_of_ble_eq_true hlv
  have hsm : (st.map fun v => v.category).sum ≤ 8 := Nat.le_of_ble_eq_true hsm
  have hc1 := Nat.le_of_ble_eq_true hc1
  have hs1 := Nat.le_of_ble_eq_true hs1
  have hPc : va_P G.1 classes [(a, e0)] H := hP.sub [k0] (by simp [he])
  have hDc : va_D A [(a, e0)] := hD.sub [k0] (by simp [va_nd]) (by simp [he])
  exact va_runI (As := As) (rest := st) ⟨hx, hb, hml, hown, hts⟩ (hM l H.size) ⟨cbN_of hts hi hf.1.2 hne hf.2 (Nat.le_of_ble_eq_true hm) hl hlv hR, hyn, hts _ hf.1.1⟩ ⟨PreN.blind, fun U hU hW => ⟨rfl, by rw [hU], by rw [hU]; exact hPc, va_K.moved hW.alike hK, hDc.weaken (fun _ _ _ _ => trivial), NWs.warm hW hNw⟩⟩ rfl hn (h.1.trans rfl) rfl (lv_room hsm) d ⟨by omega, by omega⟩
/-- a constructor that is linked as a nest mate's -/
theorem vn_ctorN {host : String} (q : Nat) (isR : List Nat) (hk : KN G κ cc own lv mc ms) (d : decode cc pc = .ok (.invokespecial ix, 3)) (hq : pc + 3 = q) (hl : ∀ U : State, NWs U → va_Nw (Cond.methodLinkNest own ix y host) U) (hi : Cond.initialized y.cls ∈ WT) (hf : (Cond.instanceMethod y ∈ WT ∧ Cond.code y bytes maxL none ∈ WT) ∧ (parseMethodDescriptor y.desc).map (fun d => d.parameters.length) = some n) (hne : y.cls ≠ "java/lang/invoke/MethodHandle" ∧ y.cls ≠ "java/lang/invoke/VarHandle") (hyn : y.name = "<init>") (hM : CtN G y bytes maxL lc mcC msC (.ref a :: As) [(a, e0)] B) (hlv : Nat.blt lc lv = true) (hm : Nat.ble maxL 21 = true) (hst : stk = As.reverse ++ .ref a :: st) (hn : As.length = n) (hsm : Nat.ble (st.map fun v => v.category).sum 8 = true) (hc1 : Nat.ble (nc + mcC) mc = true) (hs1 : Nat.ble (ns + msC) ms = true) (he : ws[k0]? = some (a, e0)) (hR : isR.map (fun i => ws[i]?) = wr.map some) (hnd : va_nd isR = true) (hdis : ∀ i ∈ isR, i ∉ [k0]) (kk : ∀ u, VN G κ (wr ++ B u) (nc + mcC) (ns + msC) q L st) : VN G κ ws nc ns pc L stk := by
  subst hq
  refine vn_after (pc + 3) isR hk rfl he hR hnd hdis ?_ kk
  obtain ⟨⟨p, l, e, R, s, m, args, below, meth, c⟩, Q, A, H0, nL⟩ := κ
  obtain ⟨hx, hb, hml, hown, hts, hK, hA, hcs, hR, hin, hNw⟩ := hk
  subst hst
  intro H locs ls h hP hD hS
  dsimp only at h hP hD hS ⊢
  have hlv : lc < lv := Nat.le_of_ble_eq_true hlv
  have hsm : (st.map fun v => v.category).sum ≤ 8 := Nat.le_of_ble_eq_true hsm
  have hc1 := Nat.le_of_ble_eq_true hc1
  have hs1 := Nat.le_of_ble_eq_true hs1
  have hm := Nat.le_of_ble_eq_true hm
  have hPc : va_P G.1 classes [(a, e0)] H := hP.sub [k0] (by simp [he])
  have hDc : va_D A [(a, e0)] := hD.sub [k0] (by simp [va_nd]) (by simp [he])
  exact va_runIN (As := As) (rest := st) ⟨hx, hb, hml, hown, hts⟩ (hM l H.size) ⟨⟨⟨rfl, rfl, by show lc + 1 + 1 ≤ R.frames; omega, by show 8 + (maxL + 11) + 40 * (lc + 1) ≤ R.locals; omega, pay_in hts (gi_of hf.1.2), List.mem_cons_self⟩, hts _ hf.1.2, hts _ hi, hne, fun sig h9 => by have h8 := hf.2; rw [h9] at h8; exact (Option.some.inj h8).symm, va_Nw.use rfl (hl s hNw)⟩, hyn, hts _ hf.1.1⟩ ⟨PreN.blind, fun U hU hW => ⟨rfl, by rw [hU], by rw [hU]; exact hPc, va_K.moved hW.alike hK, hDc.weaken (fun _ _ _ _ => trivial), NWs.warm hW hNw⟩⟩ rfl hn (h.1.trans rfl) rfl (lv_room hsm) d ⟨by omega, by omega⟩
/-- a static method over one cell (Arrays.fill) -/
theorem vn_stat (q : Nat) (isR : List Nat) (hk : KN G κ cc own lv mc ms) (d : decode cc pc = .ok (.invokestatic ix, 3)) (hq : pc + 3 = q) (hl : Cond.methodLink own ix y ∈ WT) (hf : SF y bytes maxL none n) (hM : CtN G y bytes maxL lc 0 0 As [(a, e0)] B) (hlv : Nat.blt lc lv = true) (hst : stk = As.reverse ++ st) (hn : As.length = n) (hsm : Nat.ble (st.map fun v => v.category).sum 8 = true) (hc1 : Nat.ble nc mc = true) (hs1 : Nat.ble ns ms = true) (he : ws[k0]? = some (a, e0)) (hR : isR.map (fun i => ws[i]?) = wr.map some) (hnd : va_nd isR = true) (hdis : ∀ i ∈ isR, i ∉ [k0]) (kk : ∀ u, VN G κ (wr ++ B u) nc ns q L st) : VN G κ ws nc ns pc L stk := by
  subst hq
  refine vn_after (mcC := 0) (msC := 0) (pc + 3) isR hk rfl he hR hnd hdis ?_ kk
  obtain ⟨⟨p, l, e, R, s, m, args, below, meth, c⟩, Q, A, H0, nL⟩ := κ
  obtain ⟨hx, hb, hml, hown, hts, hK, hA, hcs, hR, hin, hNw⟩ := hk
  subst hst
  intro H locs ls h hP hD hS
  dsimp only at h hP hD hS ⊢
  have hlv : lc < lv := Nat.le_of_ble_eq_true hlv
  have hsm : (st.map fun v => v.category).sum ≤ 8 := Nat.le_of_ble_eq_true hsm
  have hc1 := Nat.le_of_ble_eq_true hc1
  have hs1 := Nat.le_of_ble_eq_true hs1
  have hPc : va_P G.1 classes [(a, e0)] H := hP.sub [k0] (by simp [he])
  have hDc : va_D A [(a, e0)] := hD.sub [k0] (by simp [va_nd]) (by simp [he])
  exact va_runS (As := As) (rest := st) ⟨hx, hb, hml, hown, hts⟩ (hM l H.size) ⟨cbN_of hts hf.1.2.1 hf.1.2.2 hf.2.1 hf.2.2.1 hf.2.2.2 hl hlv hR, hts _ hf.1.1⟩ ⟨PreN.blind, fun U hU hW => ⟨rfl, by rw [hU], by rw [hU]; exact hPc, va_K.moved hW.alike hK, hDc.weaken (fun _ _ _ _ => trivial), NWs.warm hW hNw⟩⟩ rfl hn (h.1.trans rfl) rfl (lv_room hsm) d ⟨by omega, by omega⟩
theorem vn_perm (ps : List Nat) (ws' : va_W) (h1 : ps.filterMap (fun i => ws[i]?) = ws') (h2 : va_nd ps = true) (h3 : ps.map (fun i => ws[i]?) = ws'.map some) (k : VN G κ ws' nc ns pc L st) : VN G κ ws nc ns pc L st := by
  obtain ⟨⟨p, l, e, R, s, m, args, below, meth, c⟩, Q, A, H0, nL⟩ := κ
  exact fun H locs ls h hP hD hS => k H locs ls h (hP.sub ps h1) (hD.sub ps h2 h3) hS
end VNC
