/-! THE CLAIM OUT OF ONE WALK OF THE LAW'S BODY. Your part is whole_start (and what it stands on); all else here is the same for every law, but numbers. -/
def R_law : String := "NearNothingLaw"
def lw_P (b : Addr) (xs : List Int32) (args : Array Value) (s : State) : Prop := args = #[.ref b] ∧ s.IntsAt b xs ∧ xs.length ≤ 3072 ∧ (Jvm.Cond.and given_1 narrow_1).before args s = true
def lw_Q (_ : Array Value) (s : State) (o : Outcome) (t : State) : Prop := o = .returned (some (.int 1)) ∧ Framed s o t [] 600000 7302250
def lw_Z (below : List Frame) (a : Array Value) (s : State) : State → Prop := fun t => ∃ o, t.status = .running ∧ Ended t below o ∧ lw_Q a s o t
/-- the law's own end, with 1 on the stack, nothing written that was there before, its room as the claim has it -/
theorem lw_ret {p : Program} {l : Launch} {e : Env} {s : State} {m : MethodId} {below : List Frame} {meth : Method} {c : Code} {b : Nat} (hx : p.tables.exec = Jvm.exec) (hb : c.code = code) (hr : meth.sig.returnType = ret) (hlocks : meth.locks = false) {pc : Nat} {H : Heap} {ls : Array Slot} (hdg : decode code pc = .ok (.ireturn, 1)) : W p l e room_1 s m #[Value.ref b] below meth c H [] 600000 7302250 (lw_Z below #[Value.ref b] s) (F0 m pc ls [.int 1]) := by
  intro T hT X
  obtain ⟨fs, hret, hrun, hended, hW, hframe⟩ := X.leave (v := some (.int 1)) (hlocks := hlocks) (fun h => by rw [hr] at h; cases h)
  have hmeth' : T.vm.method? m = some meth := X.method'
  refine ⟨T.setFrames fs, ?_, .returned (some (.int 1)), hrun, hended, rfl, ⟨_, rfl⟩, hW, hframe⟩
  jvm_step X.here [X.here.top, hx, hb, hdg, hmeth', hr, ret, narrow_b1]
  (try refine ⟨rfl, ?_⟩); (try refine ⟨rfl, ?_⟩)
  first | (intro acts; rw [hret _ acts rfl rfl rfl]) | rw [hret _ _ rfl rfl rfl]
  exact Steps.refl _
/-- what holds at the law's entry: the machine, the code, the tables' words (any of lw_tbl by 'hts w (by decide +kernel)'), the script of L ints xs at the cell b, what the Statement gives of the start (any of its parts by flat_of_before) -/
def lw_At (p : Program) (s : State) (m : MethodId) (meth : Method) (c : Code) (b L : Nat) (xs : Nat → Int32) : Prop :=
  p.tables.exec = Jvm.exec ∧ c.code = code ∧ meth.sig.returnType = ret ∧ c.maxLocals = 4 ∧ s.vm.findClass R_law = some m.cls ∧ (∀ w ∈ lw_tbl, w.before #[Value.ref b] s = true) ∧ va_X b L xs s s.heap ∧ b < s.heap.size ∧ meth.locks = false ∧ (Jvm.Cond.and given_1 narrow_1).before #[Value.ref b] s = true
set_option maxHeartbeats 8000000
set_option maxRecDepth 100000
theorem law_world {args : Array Value} {s : State} (hts0 : ∀ w ∈ lw_tbl, w.before args s = true) : ∃ (D : va_G) (cA : Nat → ClassId), va_K D classes [(cA 0, .int), (cA 1, .boolean), (cA 2, .long), (cA 3, .array .int)] s ∧ NWs s := by
  have hts : ∀ w ∈ WT, w.before args s = true := fun w hw => hts0 w (List.mem_filter.mp hw).1
  obtain ⟨c0, i0, hKn0⟩ := u_known (C := RX0) (T := TX0) (N := 5) (n := 5) hts ci_0.2.1 (hts _ is_0.1)
  obtain ⟨c1, i1, hKn1⟩ := u_known (C := RX1) (T := TX1) (N := 4) (n := 4) hts ci_1.2.1 (hts _ is_1.1)
  obtain ⟨c2, i2, hKn2⟩ := u_known (C := RX2) (T := TX2) (N := 5) (n := 5) hts ci_2.2.1 (hts _ is_2.1)
  obtain ⟨c3, i3, hKn3⟩ := u_known (C := RX3) (T := TX3) (N := 6) (n := 6) hts ci_3.2.1 (hts _ is_3.1)
  obtain ⟨c4, i4, hKn4⟩ := u_known (C := RX4) (T := TX4) (N := 7) (n := 7) hts ci_4.2.1 (hts _ is_4.1)
  obtain ⟨c5, i5, hKn5⟩ := u_known (C := RX5) (T := TX5) (N := 16) (n := 16) hts ci_5.2.1 (hts _ is_5.1)
  obtain ⟨c6, i6, hKn6⟩ := u_known (C := RX6) (T := TX6) (N := 8) (n := 8) hts ci_6.2.1 (hts _ is_6.1)
  obtain ⟨c7, i7, hKn7⟩ := u_known (C := RX7) (T := TX7) (N := 10) (n := 10) hts ci_7.2.1 (hts _ is_7.1)
  obtain ⟨c8, i8, hKn8⟩ := u_known (C := RX8) (T := TX8) (N := 8) (n := 8) hts ci_8.2.1 (hts _ is_8.1)
  obtain ⟨c9, i9, hKn9⟩ := u_known (C := RX9) (T := TX9) (N := 9) (n := 9) hts ci_9.2.1 (hts _ is_9.1)
  obtain ⟨c10, i10, hKn10⟩ := u_known (C := RX10) (T := TX10) (N := 2) (n := 2) hts ci_10.2.1 (hts _ is_10.1)
  obtain ⟨c11, i11, hKn11⟩ := u_known (C := RX11) (T := TX11) (N := 13) (n := 13) hts ci_11.2.1 (hts _ is_11.1)
  obtain ⟨c12, i12, hKn12⟩ := u_known (C := RX12) (T := TX12) (N := 81) (n := 81) hts ci_12.2.1 (hts _ is_12.1)
  obtain ⟨cI, kI, mI, fI, gI, hI⟩ := Cond.arrayClass_spec (hts _ ac_int)
  obtain ⟨cZ, kZ, mZ, fZ, gZ, hZ⟩ := Cond.arrayClass_spec (hts _ ac_boolean)
  obtain ⟨cJ, kJ, mJ, fJ, gJ, hJ⟩ := Cond.arrayClass_spec (hts _ ac_long)
  obtain ⟨mQ, cQ, kQ, hQ1, -, hQ2, hQ3, fQ⟩ := arrayOverA_spec (hts0 _ ac_over)
  refine ⟨(fun k => [c0, c1, c2, c3, c4, c5, c6, c7, c8, c9, c10, c11, c12].getD k c0, fun k => [i0, i1, i2, i3, i4, i5, i6, i7, i8, i9, i10, i11, i12].getD k i0), fun k => [cI, cZ, cJ, cQ].getD k cI, ⟨?_, ?_⟩, ?_⟩
  · intro k q hq
    match k, hq with
    | 0, hq => cases hq; exact hKn0
    | 1, hq => cases hq; exact hKn1
    | 2, hq => cases hq; exact hKn2
    | 3, hq => cases hq; exact hKn3
    | 4, hq => cases hq; exact hKn4
    | 5, hq => cases hq; exact hKn5
    | 6, hq => cases hq; exact hKn6
    | 7, hq => cases hq; exact hKn7
    | 8, hq => cases hq; exact hKn8
    | 9, hq => cases hq; exact hKn9
    | 10, hq => cases hq; exact hKn10
    | 11, hq => cases hq; exact hKn11
    | 12, hq => cases hq; exact hKn12
    | k + 13, hq => simp [classes] at hq
  · intro k q hq
    match k, hq with
    | 0, hq => cases hq; exact ⟨fun n z => ⟨fun k h => (by cases h), kI, gI, mI, hI⟩, fI⟩
    | 1, hq => cases hq; exact ⟨fun n z => ⟨fun k h => (by cases h), kZ, gZ, mZ, hZ⟩, fZ⟩
    | 2, hq => cases hq; exact ⟨fun n z => ⟨fun k h => (by cases h), kJ, gJ, mJ, hJ⟩, fJ⟩
    | 3, hq => cases hq; exact ⟨fun n z => ⟨fun k h => (by cases h), kQ, hQ2, mQ, hQ3⟩, fQ⟩
    | k + 4, hq => simp at hq
  · exact ⟨hts0 _ ac_over, va_Nw.of rfl (hts0 _ ml_10_23), va_Nw.of rfl (hts0 _ ml_11_9), va_Nw.of rfl (hts0 _ ml_11_18), va_Nw.of rfl (hts0 _ ml_11_28), va_Nw.of rfl (hts0 _ ml_11_35), va_Nw.of rfl (hts0 _ ml_11_69)⟩
theorem wsP_ext {G : GT} {σ : Hp} {H : Heap} (h : ∀ k e, LAY[k]? = some e → va_at G.1 classes (G.2.1 k, ceG G σ k e) H) : va_P G.1 classes (wsG G σ) H := by
  intro k q hq
  cases hL : LAY[k]? with
  | none => simp [wsG, List.getElem?_mapIdx, hL] at hq
  | some e =>
    rw [ws_get G σ hL] at hq
    cases hq
    exact h k e hL
theorem wsD_ext {G : GT} {σ : Hp} {A : Nat → Prop} {l : va_W} (hD : va_D A l) (h : ∀ k e, LAY[k]? = some e → ∃ q, l[k]? = some q ∧ q.1 = G.2.1 k) : va_D A (wsG G σ) := by
  have key : ∀ (k : Nat) (q : Nat × va_E), (wsG G σ)[k]? = some q → ∃ q', l[k]? = some q' ∧ q'.1 = q.1 := by
    intro k q hq
    cases hL : LAY[k]? with
    | none => simp [wsG, List.getElem?_mapIdx, hL] at hq
    | some e =>
      rw [ws_get G σ hL] at hq
      cases hq
      exact h k e hL
  refine ⟨fun i j p q hi hj hpq => ?_, fun k q hk => ?_⟩
  · obtain ⟨p', h1, e1⟩ := key i p hi
    obtain ⟨q', h2, e2⟩ := key j q hj
    exact hD.1 i j p' q' h1 h2 (by rw [e1, e2, hpq])
  · obtain ⟨q', h1, e1⟩ := key k q hk
    rw [← e1]; exact hD.2 k q' h1
theorem cell16 {c : ClassId} {f g : Nat → Option Nat} (h : ∀ i, i < 16 → f i = g i) : vp_cell c (16, .inr (.inr (.inr (.inr f)))) = vp_cell c (16, .inr (.inr (.inr (.inr g)))) := by
  rw [vp_cell_q, vp_cell_q]
  unfold arrV
  congr 2
  funext j
  exact congrArg va_rf (h j.val j.isLt)
theorem lay_len {k : Nat} {e : LE} (h : LAY[k + 152]? = some e) : False := by
  have hL : LAY.length = 152 := by decide +kernel
  rw [List.getElem?_eq_none (by omega)] at h
  cases h
theorem world_P (D : va_G) (ad : Nat → Nat) (cA : Nat → ClassId) (h h2 : Nat) (u v : Nat → Nat) {H : Heap} (hP : va_P D classes (W_k_11 (D, ad, cA) h u ++ W_k_12 (D, ad, cA) h2 v) H) : va_P D classes (wsG (D, (fun k => if k = 0 then h else if k = 86 then h2 else if k < 86 then u k else v k), cA) (eb true z0 z0)) H := by
  refine wsP_ext (G := (D, (fun k => if k = 0 then h else if k = 86 then h2 else if k < 86 then u k else v k), cA)) ?_
  intro k e hk
  match k, hk with
  | 0, hk => obtain rfl := Option.some.inj (la_0.symm.trans hk); exact hP 0 _ rfl
  | 1, hk => obtain rfl := Option.some.inj (la_1.symm.trans hk); exact hP 1 _ rfl
  | 2, hk => obtain rfl := Option.some.inj (la_2.symm.trans hk); exact hP 2 _ rfl
  | 3, hk => obtain rfl := Option.some.inj (la_3.symm.trans hk); exact hP 3 _ rfl
  | 4, hk => obtain rfl := Option.some.inj (la_4.symm.trans hk); exact hP 4 _ rfl
  | 5, hk => obtain rfl := Option.some.inj (la_5.symm.trans hk); exact hP 5 _ rfl
  | 6, hk => obtain rfl := Option.some.inj (la_6.symm.trans hk); exact hP 6 _ rfl
  | 7, hk => obtain rfl := Option.some.inj (la_7.symm.trans hk); exact hP 7 _ rfl
  | 8, hk => obtain rfl := Option.some.inj (la_8.symm.trans hk); exact hP 8 _ rfl
  | 9, hk => obtain rfl := Option.some.inj (la_9.symm.trans hk); exact hP 9 _ rfl
  | 10, hk => obtain rfl := Option.some.inj (la_10.symm.trans hk); exact hP 10 _ rfl
  | 11, hk => obtain rfl := Option.some.inj (la_11.symm.trans hk); exact hP 11 _ rfl
  | 12, hk => obtain rfl := Option.some.inj (la_12.symm.trans hk); exact hP 12 _ rfl
  | 13, hk => obtain rfl := Option.some.inj (la_13.symm.trans hk); exact hP 13 _ rfl
  | 14, hk => obtain rfl := Option.some.inj (la_14.symm.trans hk); exact hP 14 _ rfl
  | 15, hk => obtain rfl := Option.some.inj (la_15.symm.trans hk); exact hP 15 _ rfl
  | 16, hk => obtain rfl := Option.some.inj (la_16.symm.trans hk); exact hP 16 _ rfl
  | 17, hk => obtain rfl := Option.some.inj (la_17.symm.trans hk); exact hP 17 _ rfl
  | 18, hk => obtain rfl := Option.some.inj (la_18.symm.trans hk); exact hP 18 _ rfl
  | 19, hk => obtain rfl := Option.some.inj (la_19.symm.trans hk); exact hP 19 _ rfl
  | 20, hk => obtain rfl := Option.some.inj (la_20.symm.trans hk); exact hP 20 _ rfl
  | 21, hk => obtain rfl := Option.some.inj (la_21.symm.trans hk); exact hP 21 _ rfl
  | 22, hk => obtain rfl := Option.some.inj (la_22.symm.trans hk); exact hP 22 _ rfl
  | 23, hk => obtain rfl := Option.some.inj (la_23.symm.trans hk); exact hP 23 _ rfl
  | 24, hk => obtain rfl := Option.some.inj (la_24.symm.trans hk); exact hP 24 _ rfl
  | 25, hk => obtain rfl := Option.some.inj (la_25.symm.trans hk); exact hP 25 _ rfl
  | 26, hk => obtain rfl := Option.some.inj (la_26.symm.trans hk); exact hP 26 _ rfl
  | 27, hk => obtain rfl := Option.some.inj (la_27.symm.trans hk); exact hP 27 _ rfl
  | 28, hk => obtain rfl := Option.some.inj (la_28.symm.trans hk); exact hP 28 _ rfl
  | 29, hk => obtain rfl := Option.some.inj (la_29.symm.trans hk); exact hP 29 _ rfl
  | 30, hk => obtain rfl := Option.some.inj (la_30.symm.trans hk); exact hP 30 _ rfl
  | 31, hk => obtain rfl := Option.some.inj (la_31.symm.trans hk); exact hP 31 _ rfl
  | 32, hk => obtain rfl := Option.some.inj (la_32.symm.trans hk); exact hP 32 _ rfl
  | 33, hk => obtain rfl := Option.some.inj (la_33.symm.trans hk); exact hP 33 _ rfl
  | 34, hk => obtain rfl := Option.some.inj (la_34.symm.trans hk); exact hP 34 _ rfl
  | 35, hk =>
    obtain rfl := Option.some.inj (la_35.symm.trans hk)
    have h1 : H[u 35]? = some (vp_cell (cA 3) (16, .inr (.inr (.inr (.inr (fun i => some (u (35 + 1 + i)))))))) := hP 35 _ rfl
    show H[u 35]? = some (vp_cell (cA 3) (16, .inr (.inr (.inr (.inr (fun i => some ((fun k => if k = 0 then h else if k = 86 then h2 else if k < 86 then u k else v k) (35 + 1 + i))))))))
    rw [h1]
    exact congrArg some (cell16 (lt16 rfl rfl rfl rfl rfl rfl rfl rfl rfl rfl rfl rfl rfl rfl rfl rfl))
  | 36, hk => obtain rfl := Option.some.inj (la_36.symm.trans hk); exact hP 36 _ rfl
  | 37, hk => obtain rfl := Option.some.inj (la_37.symm.trans hk); exact hP 37 _ rfl
  | 38, hk => obtain rfl := Option.some.inj (la_38.symm.trans hk); exact hP 38 _ rfl
  | 39, hk => obtain rfl := Option.some.inj (la_39.symm.trans hk); exact hP 39 _ rfl
  | 40, hk => obtain rfl := Option.some.inj (la_40.symm.trans hk); exact hP 40 _ rfl
  | 41, hk => obtain rfl := Option.some.inj (la_41.symm.trans hk); exact hP 41 _ rfl
  | 42, hk => obtain rfl := Option.some.inj (la_42.symm.trans hk); exact hP 42 _ rfl
  | 43, hk => obtain rfl := Option.some.inj (la_43.symm.trans hk); exact hP 43 _ rfl
  | 44, hk => obtain rfl := Option.some.inj (la_44.symm.trans hk); exact hP 44 _ rfl
  | 45, hk => obtain rfl := Option.some.inj (la_45.symm.trans hk); exact hP 45 _ rfl
  | 46, hk => obtain rfl := Option.some.inj (la_46.symm.trans hk); exact hP 46 _ rfl
  | 47, hk => obtain rfl := Option.some.inj (la_47.symm.trans hk); exact hP 47 _ rfl
  | 48, hk => obtain rfl := Option.some.inj (la_48.symm.trans hk); exact hP 48 _ rfl
  | 49, hk => obtain rfl := Option.some.inj (la_49.symm.trans hk); exact hP 49 _ rfl
  | 50, hk => obtain rfl := Option.some.inj (la_50.symm.trans hk); exact hP 50 _ rfl
  | 51, hk => obtain rfl := Option.some.inj (la_51.symm.trans hk); exact hP 51 _ rfl
  | 52, hk => obtain rfl := Option.some.inj (la_52.symm.trans hk); exact hP 52 _ rfl
  | 53, hk => obtain rfl := Option.some.inj (la_53.symm.trans hk); exact hP 53 _ rfl
  | 54, hk => obtain rfl := Option.some.inj (la_54.symm.trans hk); exact hP 54 _ rfl
  | 55, hk => obtain rfl := Option.some.inj (la_55.symm.trans hk); exact hP 55 _ rfl
  | 56, hk => obtain rfl := Option.some.inj (la_56.symm.trans hk); exact hP 56 _ rfl
  | 57, hk => obtain rfl := Option.some.inj (la_57.symm.trans hk); exact hP 57 _ rfl
  | 58, hk => obtain rfl := Option.some.inj (la_58.symm.trans hk); exact hP 58 _ rfl
  | 59, hk => obtain rfl := Option.some.inj (la_59.symm.trans hk); exact hP 59 _ rfl
  | 60, hk => obtain rfl := Option.some.inj (la_60.symm.trans hk); exact hP 60 _ rfl
  | 61, hk => obtain rfl := Option.some.inj (la_61.symm.trans hk); exact hP 61 _ rfl
  | 62, hk => obtain rfl := Option.some.inj (la_62.symm.trans hk); exact hP 62 _ rfl
  | 63, hk => obtain rfl := Option.some.inj (la_63.symm.trans hk); exact hP 63 _ rfl
  | 64, hk => obtain rfl := Option.some.inj (la_64.symm.trans hk); exact hP 64 _ rfl
  | 65, hk => obtain rfl := Option.some.inj (la_65.symm.trans hk); exact hP 65 _ rfl
  | 66, hk => obtain rfl := Option.some.inj (la_66.symm.trans hk); exact hP 66 _ rfl
  | 67, hk => obtain rfl := Option.some.inj (la_67.symm.trans hk); exact hP 67 _ rfl
  | 68, hk => obtain rfl := Option.some.inj (la_68.symm.trans hk); exact hP 68 _ rfl
  | 69, hk => obtain rfl := Option.some.inj (la_69.symm.trans hk); exact hP 69 _ rfl
  | 70, hk => obtain rfl := Option.some.inj (la_70.symm.trans hk); exact hP 70 _ rfl
  | 71, hk => obtain rfl := Option.some.inj (la_71.symm.trans hk); exact hP 71 _ rfl
  | 72, hk => obtain rfl := Option.some.inj (la_72.symm.trans hk); exact hP 72 _ rfl
  | 73, hk => obtain rfl := Option.some.inj (la_73.symm.trans hk); exact hP 73 _ rfl
  | 74, hk => obtain rfl := Option.some.inj (la_74.symm.trans hk); exact hP 74 _ rfl
  | 75, hk => obtain rfl := Option.some.inj (la_75.symm.trans hk); exact hP 75 _ rfl
  | 76, hk => obtain rfl := Option.some.inj (la_76.symm.trans hk); exact hP 76 _ rfl
  | 77, hk => obtain rfl := Option.some.inj (la_77.symm.trans hk); exact hP 77 _ rfl
  | 78, hk => obtain rfl := Option.some.inj (la_78.symm.trans hk); exact hP 78 _ rfl
  | 79, hk => obtain rfl := Option.some.inj (la_79.symm.trans hk); exact hP 79 _ rfl
  | 80, hk => obtain rfl := Option.some.inj (la_80.symm.trans hk); exact hP 80 _ rfl
  | 81, hk => obtain rfl := Option.some.inj (la_81.symm.trans hk); exact hP 81 _ rfl
  | 82, hk => obtain rfl := Option.some.inj (la_82.symm.trans hk); exact hP 82 _ rfl
  | 83, hk => obtain rfl := Option.some.inj (la_83.symm.trans hk); exact hP 83 _ rfl
  | 84, hk => obtain rfl := Option.some.inj (la_84.symm.trans hk); exact hP 84 _ rfl
  | 85, hk => obtain rfl := Option.some.inj (la_85.symm.trans hk); exact hP 85 _ rfl
  | 86, hk => obtain rfl := Option.some.inj (la_86.symm.trans hk); exact hP 86 _ rfl
  | 87, hk => obtain rfl := Option.some.inj (la_87.symm.trans hk); exact hP 87 _ rfl
  | 88, hk => obtain rfl := Option.some.inj (la_88.symm.trans hk); exact hP 88 _ rfl
  | 89, hk => obtain rfl := Option.some.inj (la_89.symm.trans hk); exact hP 89 _ rfl
  | 90, hk => obtain rfl := Option.some.inj (la_90.symm.trans hk); exact hP 90 _ rfl
  | 91, hk => obtain rfl := Option.some.inj (la_91.symm.trans hk); exact hP 91 _ rfl
  | 92, hk => obtain rfl := Option.some.inj (la_92.symm.trans hk); exact hP 92 _ rfl
  | 93, hk => obtain rfl := Option.some.inj (la_93.symm.trans hk); exact hP 93 _ rfl
  | 94, hk => obtain rfl := Option.some.inj (la_94.symm.trans hk); exact hP 94 _ rfl
  | 95, hk => obtain rfl := Option.some.inj (la_95.symm.trans hk); exact hP 95 _ rfl
  | 96, hk => obtain rfl := Option.some.inj (la_96.symm.trans hk); exact hP 96 _ rfl
  | 97, hk => obtain rfl := Option.some.inj (la_97.symm.trans hk); exact hP 97 _ rfl
  | 98, hk => obtain rfl := Option.some.inj (la_98.symm.trans hk); exact hP 98 _ rfl
  | 99, hk => obtain rfl := Option.some.inj (la_99.symm.trans hk); exact hP 99 _ rfl
  | 100, hk => obtain rfl := Option.some.inj (la_100.symm.trans hk); exact hP 100 _ rfl
  | 101, hk => obtain rfl := Option.some.inj (la_101.symm.trans hk); exact hP 101 _ rfl
  | 102, hk => obtain rfl := Option.some.inj (la_102.symm.trans hk); exact hP 102 _ rfl
  | 103, hk => obtain rfl := Option.some.inj (la_103.symm.trans hk); exact hP 103 _ rfl
  | 104, hk => obtain rfl := Option.some.inj (la_104.symm.trans hk); exact hP 104 _ rfl
  | 105, hk => obtain rfl := Option.some.inj (la_105.symm.trans hk); exact hP 105 _ rfl
  | 106, hk => obtain rfl := Option.some.inj (la_106.symm.trans hk); exact hP 106 _ rfl
  | 107, hk => obtain rfl := Option.some.inj (la_107.symm.trans hk); exact hP 107 _ rfl
  | 108, hk => obtain rfl := Option.some.inj (la_108.symm.trans hk); exact hP 108 _ rfl
  | 109, hk => obtain rfl := Option.some.inj (la_109.symm.trans hk); exact hP 109 _ rfl
  | 110, hk => obtain rfl := Option.some.inj (la_110.symm.trans hk); exact hP 110 _ rfl
  | 111, hk => obtain rfl := Option.some.inj (la_111.symm.trans hk); exact hP 111 _ rfl
  | 112, hk => obtain rfl := Option.some.inj (la_112.symm.trans hk); exact hP 112 _ rfl
  | 113, hk => obtain rfl := Option.some.inj (la_113.symm.trans hk); exact hP 113 _ rfl
  | 114, hk => obtain rfl := Option.some.inj (la_114.symm.trans hk); exact hP 114 _ rfl
  | 115, hk => obtain rfl := Option.some.inj (la_115.symm.trans hk); exact hP 115 _ rfl
  | 116, hk => obtain rfl := Option.some.inj (la_116.symm.trans hk); exact hP 116 _ rfl
  | 117, hk => obtain rfl := Option.some.inj (la_117.symm.trans hk); exact hP 117 _ rfl
  | 118, hk => obtain rfl := Option.some.inj (la_118.symm.trans hk); exact hP 118 _ rfl
  | 119, hk => obtain rfl := Option.some.inj (la_119.symm.trans hk); exact hP 119 _ rfl
  | 120, hk => obtain rfl := Option.some.inj (la_120.symm.trans hk); exact hP 120 _ rfl
  | 121, hk => obtain rfl := Option.some.inj (la_121.symm.trans hk); exact hP 121 _ rfl
  | 122, hk => obtain rfl := Option.some.inj (la_122.symm.trans hk); exact hP 122 _ rfl
  | 123, hk => obtain rfl := Option.some.inj (la_123.symm.trans hk); exact hP 123 _ rfl
  | 124, hk => obtain rfl := Option.some.inj (la_124.symm.trans hk); exact hP 124 _ rfl
  | 125, hk => obtain rfl := Option.some.inj (la_125.symm.trans hk); exact hP 125 _ rfl
  | 126, hk => obtain rfl := Option.some.inj (la_126.symm.trans hk); exact hP 126 _ rfl
  | 127, hk => obtain rfl := Option.some.inj (la_127.symm.trans hk); exact hP 127 _ rfl
  | 128, hk => obtain rfl := Option.some.inj (la_128.symm.trans hk); exact hP 128 _ rfl
  | 129, hk => obtain rfl := Option.some.inj (la_129.symm.trans hk); exact hP 129 _ rfl
  | 130, hk => obtain rfl := Option.some.inj (la_130.symm.trans hk); exact hP 130 _ rfl
  | 131, hk => obtain rfl := Option.some.inj (la_131.symm.trans hk); exact hP 131 _ rfl
  | 132, hk => obtain rfl := Option.some.inj (la_132.symm.trans hk); exact hP 132 _ rfl
  | 133, hk => obtain rfl := Option.some.inj (la_133.symm.trans hk); exact hP 133 _ rfl
  | 134, hk => obtain rfl := Option.some.inj (la_134.symm.trans hk); exact hP 134 _ rfl
  | 135, hk => obtain rfl := Option.some.inj (la_135.symm.trans hk); exact hP 135 _ rfl
  | 136, hk => obtain rfl := Option.some.inj (la_136.symm.trans hk); exact hP 136 _ rfl
  | 137, hk => obtain rfl := Option.some.inj (la_137.symm.trans hk); exact hP 137 _ rfl
  | 138, hk => obtain rfl := Option.some.inj (la_138.symm.trans hk); exact hP 138 _ rfl
  | 139, hk => obtain rfl := Option.some.inj (la_139.symm.trans hk); exact hP 139 _ rfl
  | 140, hk => obtain rfl := Option.some.inj (la_140.symm.trans hk); exact hP 140 _ rfl
  | 141, hk => obtain rfl := Option.some.inj (la_141.symm.trans hk); exact hP 141 _ rfl
  | 142, hk => obtain rfl := Option.some.inj (la_142.symm.trans hk); exact hP 142 _ rfl
  | 143, hk => obtain rfl := Option.some.inj (la_143.symm.trans hk); exact hP 143 _ rfl
  | 144, hk => obtain rfl := Option.some.inj (la_144.symm.trans hk); exact hP 144 _ rfl
  | 145, hk => obtain rfl := Option.some.inj (la_145.symm.trans hk); exact hP 145 _ rfl
  | 146, hk => obtain rfl := Option.some.inj (la_146.symm.trans hk); exact hP 146 _ rfl
  | 147, hk => obtain rfl := Option.some.inj (la_147.symm.trans hk); exact hP 147 _ rfl
  | 148, hk => obtain rfl := Option.some.inj (la_148.symm.trans hk); exact hP 148 _ rfl
  | 149, hk => obtain rfl := Option.some.inj (la_149.symm.trans hk); exact hP 149 _ rfl
  | 150, hk => obtain rfl := Option.some.inj (la_150.symm.trans hk); exact hP 150 _ rfl
  | 151, hk => obtain rfl := Option.some.inj (la_151.symm.trans hk); exact hP 151 _ rfl
  | k + 152, hk => exact (lay_len hk).elim
theorem world_D (D : va_G) (ad : Nat → Nat) (cA : Nat → ClassId) (h h2 : Nat) (u v : Nat → Nat) {A : Nat → Prop} (hD : va_D A (W_k_11 (D, ad, cA) h u ++ W_k_12 (D, ad, cA) h2 v)) : va_D A (wsG (D, (fun k => if k = 0 then h else if k = 86 then h2 else if k < 86 then u k else v k), cA) (eb true z0 z0)) := by
  refine wsD_ext (G := (D, (fun k => if k = 0 then h else if k = 86 then h2 else if k < 86 then u k else v k), cA)) hD ?_
  intro k e hk
  match k, hk with
  | 0, _ => exact ⟨_, rfl, rfl⟩
  | 1, _ => exact ⟨_, rfl, rfl⟩
  | 2, _ => exact ⟨_, rfl, rfl⟩
  | 3, _ => exact ⟨_, rfl, rfl⟩
  | 4, _ => exact ⟨_, rfl, rfl⟩
  | 5, _ => exact ⟨_, rfl, rfl⟩
  | 6, _ => exact ⟨_, rfl, rfl⟩
  | 7, _ => exact ⟨_, rfl, rfl⟩
  | 8, _ => exact ⟨_, rfl, rfl⟩
  | 9, _ => exact ⟨_, rfl, rfl⟩
  | 10, _ => exact ⟨_, rfl, rfl⟩
  | 11, _ => exact ⟨_, rfl, rfl⟩
  | 12, _ => exact ⟨_, rfl, rfl⟩
  | 13, _ => exact ⟨_, rfl, rfl⟩
  | 14, _ => exact ⟨_, rfl, rfl⟩
  | 15, _ => exact ⟨_, rfl, rfl⟩
  | 16, _ => exact ⟨_, rfl, rfl⟩
  | 17, _ => exact ⟨_, rfl, rfl⟩
  | 18, _ => exact ⟨_, rfl, rfl⟩
  | 19, _ => exact ⟨_, rfl, rfl⟩
  | 20, _ => exact ⟨_, rfl, rfl⟩
  | 21, _ => exact ⟨_, rfl, rfl⟩
  | 22, _ => exact ⟨_, rfl, rfl⟩
  | 23, _ => exact ⟨_, rfl, rfl⟩
  | 24, _ => exact ⟨_, rfl, rfl⟩
  | 25, _ => exact ⟨_, rfl, rfl⟩
  | 26, _ => exact ⟨_, rfl, rfl⟩
  | 27, _ => exact ⟨_, rfl, rfl⟩
  | 28, _ => exact ⟨_, rfl, rfl⟩
  | 29, _ => exact ⟨_, rfl, rfl⟩
  | 30, _ => exact ⟨_, rfl, rfl⟩
  | 31, _ => exact ⟨_, rfl, rfl⟩
  | 32, _ => exact ⟨_, rfl, rfl⟩
  | 33, _ => exact ⟨_, rfl, rfl⟩
  | 34, _ => exact ⟨_, rfl, rfl⟩
  | 35, _ => exact ⟨_, rfl, rfl⟩
  | 36, _ => exact ⟨_, rfl, rfl⟩
  | 37, _ => exact ⟨_, rfl, rfl⟩
  | 38, _ => exact ⟨_, rfl, rfl⟩
  | 39, _ => exact ⟨_, rfl, rfl⟩
  | 40, _ => exact ⟨_, rfl, rfl⟩
  | 41, _ => exact ⟨_, rfl, rfl⟩
  | 42, _ => exact ⟨_, rfl, rfl⟩
  | 43, _ => exact ⟨_, rfl, rfl⟩
  | 44, _ => exact ⟨_, rfl, rfl⟩
  | 45, _ => exact ⟨_, rfl, rfl⟩
  | 46, _ => exact ⟨_, rfl, rfl⟩
  | 47, _ => exact ⟨_, rfl, rfl⟩
  | 48, _ => exact ⟨_, rfl, rfl⟩
  | 49, _ => exact ⟨_, rfl, rfl⟩
  | 50, _ => exact ⟨_, rfl, rfl⟩
  | 51, _ => exact ⟨_, rfl, rfl⟩
  | 52, _ => exact ⟨_, rfl, rfl⟩
  | 53, _ => exact ⟨_, rfl, rfl⟩
  | 54, _ => exact ⟨_, rfl, rfl⟩
  | 55, _ => exact ⟨_, rfl, rfl⟩
  | 56, _ => exact ⟨_, rfl, rfl⟩
  | 57, _ => exact ⟨_, rfl, rfl⟩
  | 58, _ => exact ⟨_, rfl, rfl⟩
  | 59, _ => exact ⟨_, rfl, rfl⟩
  | 60, _ => exact ⟨_, rfl, rfl⟩
  | 61, _ => exact ⟨_, rfl, rfl⟩
  | 62, _ => exact ⟨_, rfl, rfl⟩
  | 63, _ => exact ⟨_, rfl, rfl⟩
  | 64, _ => exact ⟨_, rfl, rfl⟩
  | 65, _ => exact ⟨_, rfl, rfl⟩
  | 66, _ => exact ⟨_, rfl, rfl⟩
  | 67, _ => exact ⟨_, rfl, rfl⟩
  | 68, _ => exact ⟨_, rfl, rfl⟩
  | 69, _ => exact ⟨_, rfl, rfl⟩
  | 70, _ => exact ⟨_, rfl, rfl⟩
  | 71, _ => exact ⟨_, rfl, rfl⟩
  | 72, _ => exact ⟨_, rfl, rfl⟩
  | 73, _ => exact ⟨_, rfl, rfl⟩
  | 74, _ => exact ⟨_, rfl, rfl⟩
  | 75, _ => exact ⟨_, rfl, rfl⟩
  | 76, _ => exact ⟨_, rfl, rfl⟩
  | 77, _ => exact ⟨_, rfl, rfl⟩
  | 78, _ => exact ⟨_, rfl, rfl⟩
  | 79, _ => exact ⟨_, rfl, rfl⟩
  | 80, _ => exact ⟨_, rfl, rfl⟩
  | 81, _ => exact ⟨_, rfl, rfl⟩
  | 82, _ => exact ⟨_, rfl, rfl⟩
  | 83, _ => exact ⟨_, rfl, rfl⟩
  | 84, _ => exact ⟨_, rfl, rfl⟩
  | 85, _ => exact ⟨_, rfl, rfl⟩
  | 86, _ => exact ⟨_, rfl, rfl⟩
  | 87, _ => exact ⟨_, rfl, rfl⟩
  | 88, _ => exact ⟨_, rfl, rfl⟩
  | 89, _ => exact ⟨_, rfl, rfl⟩
  | 90, _ => exact ⟨_, rfl, rfl⟩
  | 91, _ => exact ⟨_, rfl, rfl⟩
  | 92, _ => exact ⟨_, rfl, rfl⟩
  | 93, _ => exact ⟨_, rfl, rfl⟩
  | 94, _ => exact ⟨_, rfl, rfl⟩
  | 95, _ => exact ⟨_, rfl, rfl⟩
  | 96, _ => exact ⟨_, rfl, rfl⟩
  | 97, _ => exact ⟨_, rfl, rfl⟩
  | 98, _ => exact ⟨_, rfl, rfl⟩
  | 99, _ => exact ⟨_, rfl, rfl⟩
  | 100, _ => exact ⟨_, rfl, rfl⟩
  | 101, _ => exact ⟨_, rfl, rfl⟩
  | 102, _ => exact ⟨_, rfl, rfl⟩
  | 103, _ => exact ⟨_, rfl, rfl⟩
  | 104, _ => exact ⟨_, rfl, rfl⟩
  | 105, _ => exact ⟨_, rfl, rfl⟩
  | 106, _ => exact ⟨_, rfl, rfl⟩
  | 107, _ => exact ⟨_, rfl, rfl⟩
  | 108, _ => exact ⟨_, rfl, rfl⟩
  | 109, _ => exact ⟨_, rfl, rfl⟩
  | 110, _ => exact ⟨_, rfl, rfl⟩
  | 111, _ => exact ⟨_, rfl, rfl⟩
  | 112, _ => exact ⟨_, rfl, rfl⟩
  | 113, _ => exact ⟨_, rfl, rfl⟩
  | 114, _ => exact ⟨_, rfl, rfl⟩
  | 115, _ => exact ⟨_, rfl, rfl⟩
  | 116, _ => exact ⟨_, rfl, rfl⟩
  | 117, _ => exact ⟨_, rfl, rfl⟩
  | 118, _ => exact ⟨_, rfl, rfl⟩
  | 119, _ => exact ⟨_, rfl, rfl⟩
  | 120, _ => exact ⟨_, rfl, rfl⟩
  | 121, _ => exact ⟨_, rfl, rfl⟩
  | 122, _ => exact ⟨_, rfl, rfl⟩
  | 123, _ => exact ⟨_, rfl, rfl⟩
  | 124, _ => exact ⟨_, rfl, rfl⟩
  | 125, _ => exact ⟨_, rfl, rfl⟩
  | 126, _ => exact ⟨_, rfl, rfl⟩
  | 127, _ => exact ⟨_, rfl, rfl⟩
  | 128, _ => exact ⟨_, rfl, rfl⟩
  | 129, _ => exact ⟨_, rfl, rfl⟩
  | 130, _ => exact ⟨_, rfl, rfl⟩
  | 131, _ => exact ⟨_, rfl, rfl⟩
  | 132, _ => exact ⟨_, rfl, rfl⟩
  | 133, _ => exact ⟨_, rfl, rfl⟩
  | 134, _ => exact ⟨_, rfl, rfl⟩
  | 135, _ => exact ⟨_, rfl, rfl⟩
  | 136, _ => exact ⟨_, rfl, rfl⟩
  | 137, _ => exact ⟨_, rfl, rfl⟩
  | 138, _ => exact ⟨_, rfl, rfl⟩
  | 139, _ => exact ⟨_, rfl, rfl⟩
  | 140, _ => exact ⟨_, rfl, rfl⟩
  | 141, _ => exact ⟨_, rfl, rfl⟩
  | 142, _ => exact ⟨_, rfl, rfl⟩
  | 143, _ => exact ⟨_, rfl, rfl⟩
  | 144, _ => exact ⟨_, rfl, rfl⟩
  | 145, _ => exact ⟨_, rfl, rfl⟩
  | 146, _ => exact ⟨_, rfl, rfl⟩
  | 147, _ => exact ⟨_, rfl, rfl⟩
  | 148, _ => exact ⟨_, rfl, rfl⟩
  | 149, _ => exact ⟨_, rfl, rfl⟩
  | 150, _ => exact ⟨_, rfl, rfl⟩
  | 151, _ => exact ⟨_, rfl, rfl⟩
  | k + 152, hk => exact (lay_len hk).elim
theorem whole_law {p : Program} {e : Env} {s : State} {m : MethodId} {below : List Frame} {meth : Method} {c : Code} (l : Launch) {b L : Nat} {xs : Nat → Int32} (C0 : lw_At p s m meth c b L xs) (hlaw : f_law xs L z0 z0 = some 1) : W p l e room_1 s m #[Value.ref b] below meth c s.heap [] 0 0 (lw_Z below #[Value.ref b] s) (entryFrame m ([Value.ref b] : List Value).toArray 4) := by
  obtain ⟨hx, hb, hr, hml, hown, hts0, hX, hbl, hlocks, hgv⟩ := C0
  have hts : ∀ w ∈ WT, w.before #[Value.ref b] s = true := fun w hw => hts0 w (List.mem_filter.mp hw).1
  obtain ⟨D, cA, hK, hNW⟩ := law_world hts0
  have hl := lv_entry ([.ref b]) (n := 4) (Nat.le_of_ble_eq_true rfl)
  rw [lg_entry_eq]
  generalize (lg_sl ([.ref b]) ++ List.replicate (4 - (lg_sl ([.ref b])).length) Slot.unset).toArray = ls at hl ⊢
  have hl' : lvL ls 4 [some (.ref b), none, none, none] := ⟨hl.1, rfl, hl.2.1, fun i v hi => hl.2.2 (i, v) (by
    have h9 := enL_in [.ref b] 4 0 i v hi
    rwa [Nat.zero_add] at h9)⟩
  have hk : KN (D, (fun k => k), cA) ((p, l, e, room_1, s, m, #[Value.ref b], below, meth, c), lw_Z below #[Value.ref b] s, (fun q : Nat => s.heap.size ≤ q), s.heap, 4) cL_law "NearNothingLaw" 100 152 3492 := ⟨hx, hb, hml, hown, hts, hK, fun q h => h, ⟨by decide, by decide⟩, ⟨by decide, by decide⟩, fun h9 => absurd (Or.inr rfl) h9, hNW⟩
  have key : VN (D, (fun k => k), cA) ((p, l, e, room_1, s, m, #[Value.ref b], below, meth, c), lw_Z below #[Value.ref b] s, (fun q : Nat => s.heap.size ≤ q), s.heap, 4) [] 0 0 0 [some (.ref b), none, none, none] [] := by
    refine vn_new (fs := [.null, .null, .null, .null, .null, .null, .null, .null, .null, .null, .null, .null, .null]) 3 (fun h => [(h, .inr (11, [.null, .null, .null, .null, .null, .null, .null, .null, .null, .null, .null, .null, .null]))]) hk dL_law_0 rfl ci_11 cl_L_7 is_11 fs_11 rfl rfl (fun _ => rfl) (fun h => ?_)
    refine vn_cs (nc' := 1) (ns' := 13) rfl rfl ?_
    refine vn_dup 4 hk dL_law_3 rfl rfl ?_
    refine vn_ctor (As := []) (k0 := 0) (wr := []) (st := [.ref h]) 7 [] hk dL_law_4 rfl ml_L_9 is_11.2 kf_11 ⟨by decide +kernel, by decide +kernel⟩ rfl (k_11 (D, (fun k => k), cA) h) rfl rfl rfl rfl rfl rfl rfl rfl rfl rfl (by decide) (fun u => ?_)
    refine vn_cs (nc' := 86) (ns' := 1827) rfl rfl ?_
    refine vn_eq (ws' := W_k_11 (D, (fun k => k), cA) h u) rfl ?_
    refine vn_astore_n (i := 1) 8 [some (.ref b), some (.ref h), none, none] hk dL_law_7 rfl rfl rfl rfl ?_
    refine vn_new (fs := [.null, .null, .null, .null, .null, .null, .null, .null, .null, .null, .null, .null, .null, .null, .null, .null, .null, .null, .null, .null, .int 0, .int 0, .int 0, .int 0, .null, .null, .null, .null, .null, .null, .null, .null, .null, .null, .null, .null, .null, .int 0, .int 0, .int 0, .int 0, .null, .null, .int 0, .int 0, .int 0, .null, .null, .null, .null, .int 0, .int 0, .null, .null, .null, .null, .null, .null, .null, .null, .null, .null, .null, .null, .null, .null, .null, .null, .null, .null, .null, .null, .null, .null, .null, .int 0, .int 0, .null, .null, .null, .int 0]) 11 (fun h2 => W_k_11 (D, (fun k => k), cA) h u ++ [(h2, .inr (12, [.null, .null, .null, .null, .null, .null, .null, .null, .null, .null, .null, .null, .null, .null, .null, .null, .null, .null, .null, .null, .int 0, .int 0, .int 0, .int 0, .null, .null, .null, .null, .null, .null, .null, .null, .null, .null, .null, .null, .null, .int 0, .int 0, .int 0, .int 0, .null, .null, .int 0, .int 0, .int 0, .null, .null, .null, .null, .int 0, .int 0, .null, .null, .null, .null, .null, .null, .null, .null, .null, .null, .null, .null, .null, .null, .null, .null, .null, .null, .null, .null, .null, .null, .null, .int 0, .int 0, .null, .null, .null, .int 0]))]) hk dL_law_8 rfl ci_12 cl_L_10 is_12 fs_12 rfl rfl (fun _ => rfl) (fun h2 => ?_)
    refine vn_cs (nc' := 87) (ns' := 1908) rfl rfl ?_
    refine vn_dup 12 hk dL_law_11 rfl rfl ?_
    refine vn_ctor (As := []) (k0 := 86) (wr := W_k_11 (D, (fun k => k), cA) h u) (st := [.ref h2]) 15 (List.range 86) hk dL_law_12 rfl ml_L_12 is_12.2 kf_12 ⟨by decide +kernel, by decide +kernel⟩ rfl (k_12 (D, (fun k => k), cA) h2) rfl rfl rfl rfl rfl rfl rfl rfl rfl (by decide +kernel) (by decide +kernel) (fun v => ?_)
    refine vn_cs (nc' := 152) (ns' := 3492) rfl rfl ?_
    refine vn_astore_n (i := 2) 16 [some (.ref b), some (.ref h), some (.ref h2), none] hk dL_law_15 rfl rfl rfl rfl ?_
    refine vn_iconst 17 hk dL_law_16 rfl ic_0 ?_
    refine vn_istore_n (i := 3) 18 [some (.ref b), some (.ref h), some (.ref h2), some (.int 0)] hk dL_law_17 rfl rfl rfl rfl ?_
    intro H locs ls1 hl1 hP hD hS
    have hP := world_P D (fun k => k) cA h h2 u v hP
    have hD := world_D D (fun k => k) cA h h2 u v hD
    exact c_law (D, (fun k => if k = 0 then h else if k = 86 then h2 else if k < 86 then u k else v k), cA) xs L b z0 z0 ((p, l, e, room_1, s, m, #[Value.ref b], below, meth, c), lw_Z below #[Value.ref b] s, (fun q : Nat => s.heap.size ≤ q), s.heap, (4, 152, 3492), (fun q => eb true q.2 q.1), 1)
      ⟨hx, hb, hml, hown, hts, hK, fun q h => h, ⟨by decide, by decide⟩, ⟨by decide, by decide⟩, hNW.2.1⟩ ⟨rfl, hX, hbl, Nat.not_le.mpr hbl⟩
      (fun v9 σ9 pc L9 hd hx0 H9 locs9 ls9 hl9 hP9 hD9 hS9 => by
        obtain rfl : v9 = 1 := Option.some.inj hx0
        refine va_forget (fun q hq => hS9.2.2 q hq) ?_
        refine W.widen (k := 600000) (n := 7302250) (by decide) (by decide) ?_
        exact lw_ret hx hb hr hlocks hd) hlaw H locs ls1 hl1 hP hD hS
  exact key s.heap [] ls hl' (fun k q h => by simp at h) ⟨fun i j p q h => by simp at h, fun k q h => by simp at h⟩ va_S.rf
