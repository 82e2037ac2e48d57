set_option maxHeartbeats 8000000
set_option maxRecDepth 100000
theorem fs_0 : ∀ j, j < 5 → defaultValue (tyX0 j) = vp_V [.null, .null, .null, .int 0, .int 0] j := by decide +kernel
theorem fs_1 : ∀ j, j < 4 → defaultValue (tyX1 j) = vp_V [.null, .null, .null, .null] j := by decide +kernel
theorem fs_2 : ∀ j, j < 5 → defaultValue (tyX2 j) = vp_V [.null, .null, .null, .int 0, .int 0] j := by decide +kernel
theorem fs_3 : ∀ j, j < 6 → defaultValue (tyX3 j) = vp_V [.null, .null, .null, .null, .int 0, .int 0] j := by decide +kernel
theorem fs_4 : ∀ j, j < 7 → defaultValue (tyX4 j) = vp_V [.int 0, .int 0, .null, .null, .null, .null, .null] j := by decide +kernel
theorem fs_5 : ∀ j, j < 16 → defaultValue (tyX5 j) = vp_V [.int 0, .null, .null, .null, .null, .null, .int 0, .null, .null, .null, .int 0, .int 0, .null, .null, .null, .int 0] j := by decide +kernel
theorem fs_6 : ∀ j, j < 8 → defaultValue (tyX6 j) = vp_V [.null, .int 0, .int 0, .int 0, .int 0, .int 0, .null, .int 0] j := by decide +kernel
theorem fs_7 : ∀ j, j < 10 → defaultValue (tyX7 j) = vp_V [.null, .null, .null, .null, .null, .null, .int 0, .null, .null, .null] j := by decide +kernel
theorem fs_8 : ∀ j, j < 8 → defaultValue (tyX8 j) = vp_V [.null, .null, .int 0, .int 0, .int 0, .null, .null, .null] j := by decide +kernel
theorem fs_9 : ∀ j, j < 9 → defaultValue (tyX9 j) = vp_V [.null, .int 0, .null, .null, .int 0, .null, .null, .null, .null] j := by decide +kernel
theorem fs_10 : ∀ j, j < 2 → defaultValue (tyX10 j) = vp_V [.null, .null] j := by decide +kernel
theorem fs_11 : ∀ j, j < 13 → defaultValue (tyX11 j) = vp_V [.null, .null, .null, .null, .null, .null, .null, .null, .null, .null, .null, .null, .null] j := by decide +kernel
theorem fs_12 : ∀ j, j < 81 → defaultValue (tyX12 j) = vp_V [.null, .null, .null, .null, .null, .null, .null, .null, .null, .null, .null, .null, .null, .null, .null, .null, .null, .null, .null, .null, .int 0, .int 0, .int 0, .int 0, .null, .null, .null, .null, .null, .null, .null, .null, .null, .null, .null, .null, .null, .int 0, .int 0, .int 0, .int 0, .null, .null, .int 0, .int 0, .int 0, .null, .null, .null, .null, .int 0, .int 0, .null, .null, .null, .null, .null, .null, .null, .null, .null, .null, .null, .null, .null, .null, .null, .null, .null, .null, .null, .null, .null, .null, .null, .int 0, .int 0, .null, .null, .null, .int 0] j := by decide +kernel
theorem k_fill3 (G : GT) (h : Nat) (v : Int32) (f : Nat → Int32) : CtN G yJ7_fill_53178 cJ7_fill_53178 4 1 0 0 [.ref h, .int v] [(h, .inl (G.2.2 0, 3, .inl f))] (fun (_ : Unit) => [(h, .inl (G.2.2 0, 3, .inl (upd (upd (upd f 0 v) 1 v) 2 v)))]) := by
  refine ctN (L0 := [some (.ref h), some (.int v), none, none]) (by decide +kernel) (fun h9 => absurd (Or.inl rfl) h9) rfl rfl (fun κ hk hret => ?_)
  have hk : KN G κ cJ7_fill_53178 RJ7 1 0 0 := hk
  refine vn_iconst 1 hk dJ7_fill_53178_0 rfl ic_0 ?_
  refine vn_istore_n (i := 2) 2 [some (.ref h), some (.int v), some (.int (0 : Int32)), none] hk dJ7_fill_53178_1 rfl rfl rfl rfl ?_
  refine vn_aload_n (i := 0) 3 hk dJ7_fill_53178_2 rfl rfl rfl ?_
  refine vn_alen 4 hk dJ7_fill_53178_3 rfl (k0 := 0) rfl al_3 ?_
  refine vn_istore_n (i := 3) 5 [some (.ref h), some (.int v), some (.int (0 : Int32)), some (.int (3 : Int32))] hk dJ7_fill_53178_4 rfl rfl rfl rfl ?_
  refine vn_iload_n (i := 2) 6 hk dJ7_fill_53178_5 rfl rfl rfl ?_
  refine vn_iload_n (i := 3) 7 hk dJ7_fill_53178_6 rfl rfl rfl ?_
  refine vn_geF (t := 20) 10 hk dJ7_fill_53178_7 rfl rfl (by decide +kernel) ?_
  refine vn_aload_n (i := 0) 11 hk dJ7_fill_53178_10 rfl rfl rfl ?_
  refine vn_iload_n (i := 2) 12 hk dJ7_fill_53178_11 rfl rfl rfl ?_
  refine vn_iload_n (i := 1) 13 hk dJ7_fill_53178_12 rfl rfl rfl ?_
  refine vn_iast 14 [(h, .inl (G.2.2 0, 3, .inl (upd f 0 v)))] hk dJ7_fill_53178_13 rfl (k0 := 0) rfl (by decide +kernel) (j := 0) (by decide +kernel) rfl ?_
  refine vn_iinc 17 [some (.ref h), some (.int v), some (.int (1 : Int32)), some (.int (3 : Int32))] hk dJ7_fill_53178_14 rfl rfl (by decide +kernel) rfl ?_
  refine vn_goto 5 hk dJ7_fill_53178_17 rfl ?_
  refine vn_iload_n (i := 2) 6 hk dJ7_fill_53178_5 rfl rfl rfl ?_
  refine vn_iload_n (i := 3) 7 hk dJ7_fill_53178_6 rfl rfl rfl ?_
  refine vn_geF (t := 20) 10 hk dJ7_fill_53178_7 rfl rfl (by decide +kernel) ?_
  refine vn_aload_n (i := 0) 11 hk dJ7_fill_53178_10 rfl rfl rfl ?_
  refine vn_iload_n (i := 2) 12 hk dJ7_fill_53178_11 rfl rfl rfl ?_
  refine vn_iload_n (i := 1) 13 hk dJ7_fill_53178_12 rfl rfl rfl ?_
  refine vn_iast 14 [(h, .inl (G.2.2 0, 3, .inl (upd (upd f 0 v) 1 v)))] hk dJ7_fill_53178_13 rfl (k0 := 0) rfl (by decide +kernel) (j := 1) (by decide +kernel) rfl ?_
  refine vn_iinc 17 [some (.ref h), some (.int v), some (.int (2 : Int32)), some (.int (3 : Int32))] hk dJ7_fill_53178_14 rfl rfl (by decide +kernel) rfl ?_
  refine vn_goto 5 hk dJ7_fill_53178_17 rfl ?_
  refine vn_iload_n (i := 2) 6 hk dJ7_fill_53178_5 rfl rfl rfl ?_
  refine vn_iload_n (i := 3) 7 hk dJ7_fill_53178_6 rfl rfl rfl ?_
  refine vn_geF (t := 20) 10 hk dJ7_fill_53178_7 rfl rfl (by decide +kernel) ?_
  refine vn_aload_n (i := 0) 11 hk dJ7_fill_53178_10 rfl rfl rfl ?_
  refine vn_iload_n (i := 2) 12 hk dJ7_fill_53178_11 rfl rfl rfl ?_
  refine vn_iload_n (i := 1) 13 hk dJ7_fill_53178_12 rfl rfl rfl ?_
  refine vn_iast 14 [(h, .inl (G.2.2 0, 3, .inl (upd (upd (upd f 0 v) 1 v) 2 v)))] hk dJ7_fill_53178_13 rfl (k0 := 0) rfl (by decide +kernel) (j := 2) (by decide +kernel) rfl ?_
  refine vn_iinc 17 [some (.ref h), some (.int v), some (.int (3 : Int32)), some (.int (3 : Int32))] hk dJ7_fill_53178_14 rfl rfl (by decide +kernel) rfl ?_
  refine vn_goto 5 hk dJ7_fill_53178_17 rfl ?_
  refine vn_iload_n (i := 2) 6 hk dJ7_fill_53178_5 rfl rfl rfl ?_
  refine vn_iload_n (i := 3) 7 hk dJ7_fill_53178_6 rfl rfl rfl ?_
  refine vn_geT 20 hk dJ7_fill_53178_7 rfl (by decide +kernel) ?_
  exact hret () _ _ dJ7_fill_53178_20

theorem k_fill4 (G : GT) (h : Nat) (v : Int32) (f : Nat → Int32) : CtN G yJ7_fill_53178 cJ7_fill_53178 4 1 0 0 [.ref h, .int v] [(h, .inl (G.2.2 0, 4, .inl f))] (fun (_ : Unit) => [(h, .inl (G.2.2 0, 4, .inl (upd (upd (upd (upd f 0 v) 1 v) 2 v) 3 v)))]) := by
  refine ctN (L0 := [some (.ref h), some (.int v), none, none]) (by decide +kernel) (fun h9 => absurd (Or.inl rfl) h9) rfl rfl (fun κ hk hret => ?_)
  have hk : KN G κ cJ7_fill_53178 RJ7 1 0 0 := hk
  refine vn_iconst 1 hk dJ7_fill_53178_0 rfl ic_0 ?_
  refine vn_istore_n (i := 2) 2 [some (.ref h), some (.int v), some (.int (0 : Int32)), none] hk dJ7_fill_53178_1 rfl rfl rfl rfl ?_
  refine vn_aload_n (i := 0) 3 hk dJ7_fill_53178_2 rfl rfl rfl ?_
  refine vn_alen 4 hk dJ7_fill_53178_3 rfl (k0 := 0) rfl al_4 ?_
  refine vn_istore_n (i := 3) 5 [some (.ref h), some (.int v), some (.int (0 : Int32)), some (.int (4 : Int32))] hk dJ7_fill_53178_4 rfl rfl rfl rfl ?_
  refine vn_iload_n (i := 2) 6 hk dJ7_fill_53178_5 rfl rfl rfl ?_
  refine vn_iload_n (i := 3) 7 hk dJ7_fill_53178_6 rfl rfl rfl ?_
  refine vn_geF (t := 20) 10 hk dJ7_fill_53178_7 rfl rfl (by decide +kernel) ?_
  refine vn_aload_n (i := 0) 11 hk dJ7_fill_53178_10 rfl rfl rfl ?_
  refine vn_iload_n (i := 2) 12 hk dJ7_fill_53178_11 rfl rfl rfl ?_
  refine vn_iload_n (i := 1) 13 hk dJ7_fill_53178_12 rfl rfl rfl ?_
  refine vn_iast 14 [(h, .inl (G.2.2 0, 4, .inl (upd f 0 v)))] hk dJ7_fill_53178_13 rfl (k0 := 0) rfl (by decide +kernel) (j := 0) (by decide +kernel) rfl ?_
  refine vn_iinc 17 [some (.ref h), some (.int v), some (.int (1 : Int32)), some (.int (4 : Int32))] hk dJ7_fill_53178_14 rfl rfl (by decide +kernel) rfl ?_
  refine vn_goto 5 hk dJ7_fill_53178_17 rfl ?_
  refine vn_iload_n (i := 2) 6 hk dJ7_fill_53178_5 rfl rfl rfl ?_
  refine vn_iload_n (i := 3) 7 hk dJ7_fill_53178_6 rfl rfl rfl ?_
  refine vn_geF (t := 20) 10 hk dJ7_fill_53178_7 rfl rfl (by decide +kernel) ?_
  refine vn_aload_n (i := 0) 11 hk dJ7_fill_53178_10 rfl rfl rfl ?_
  refine vn_iload_n (i := 2) 12 hk dJ7_fill_53178_11 rfl rfl rfl ?_
  refine vn_iload_n (i := 1) 13 hk dJ7_fill_53178_12 rfl rfl rfl ?_
  refine vn_iast 14 [(h, .inl (G.2.2 0, 4, .inl (upd (upd f 0 v) 1 v)))] hk dJ7_fill_53178_13 rfl (k0 := 0) rfl (by decide +kernel) (j := 1) (by decide +kernel) rfl ?_
  refine vn_iinc 17 [some (.ref h), some (.int v), some (.int (2 : Int32)), some (.int (4 : Int32))] hk dJ7_fill_53178_14 rfl rfl (by decide +kernel) rfl ?_
  refine vn_goto 5 hk dJ7_fill_53178_17 rfl ?_
  refine vn_iload_n (i := 2) 6 hk dJ7_fill_53178_5 rfl rfl rfl ?_
  refine vn_iload_n (i := 3) 7 hk dJ7_fill_53178_6 rfl rfl rfl ?_
  refine vn_geF (t := 20) 10 hk dJ7_fill_53178_7 rfl rfl (by decide +kernel) ?_
  refine vn_aload_n (i := 0) 11 hk dJ7_fill_53178_10 rfl rfl rfl ?_
  refine vn_iload_n (i := 2) 12 hk dJ7_fill_53178_11 rfl rfl rfl ?_
  refine vn_iload_n (i := 1) 13 hk dJ7_fill_53178_12 rfl rfl rfl ?_
  refine vn_iast 14 [(h, .inl (G.2.2 0, 4, .inl (upd (upd (upd f 0 v) 1 v) 2 v)))] hk dJ7_fill_53178_13 rfl (k0 := 0) rfl (by decide +kernel) (j := 2) (by decide +kernel) rfl ?_
  refine vn_iinc 17 [some (.ref h), some (.int v), some (.int (3 : Int32)), some (.int (4 : Int32))] hk dJ7_fill_53178_14 rfl rfl (by decide +kernel) rfl ?_
  refine vn_goto 5 hk dJ7_fill_53178_17 rfl ?_
  refine vn_iload_n (i := 2) 6 hk dJ7_fill_53178_5 rfl rfl rfl ?_
  refine vn_iload_n (i := 3) 7 hk dJ7_fill_53178_6 rfl rfl rfl ?_
  refine vn_geF (t := 20) 10 hk dJ7_fill_53178_7 rfl rfl (by decide +kernel) ?_
  refine vn_aload_n (i := 0) 11 hk dJ7_fill_53178_10 rfl rfl rfl ?_
  refine vn_iload_n (i := 2) 12 hk dJ7_fill_53178_11 rfl rfl rfl ?_
  refine vn_iload_n (i := 1) 13 hk dJ7_fill_53178_12 rfl rfl rfl ?_
  refine vn_iast 14 [(h, .inl (G.2.2 0, 4, .inl (upd (upd (upd (upd f 0 v) 1 v) 2 v) 3 v)))] hk dJ7_fill_53178_13 rfl (k0 := 0) rfl (by decide +kernel) (j := 3) (by decide +kernel) rfl ?_
  refine vn_iinc 17 [some (.ref h), some (.int v), some (.int (4 : Int32)), some (.int (4 : Int32))] hk dJ7_fill_53178_14 rfl rfl (by decide +kernel) rfl ?_
  refine vn_goto 5 hk dJ7_fill_53178_17 rfl ?_
  refine vn_iload_n (i := 2) 6 hk dJ7_fill_53178_5 rfl rfl rfl ?_
  refine vn_iload_n (i := 3) 7 hk dJ7_fill_53178_6 rfl rfl rfl ?_
  refine vn_geT 20 hk dJ7_fill_53178_7 rfl (by decide +kernel) ?_
  exact hret () _ _ dJ7_fill_53178_20

theorem k_fill8 (G : GT) (h : Nat) (v : Int32) (f : Nat → Int32) : CtN G yJ7_fill_53178 cJ7_fill_53178 4 1 0 0 [.ref h, .int v] [(h, .inl (G.2.2 0, 8, .inl f))] (fun (_ : Unit) => [(h, .inl (G.2.2 0, 8, .inl (upd (upd (upd (upd (upd (upd (upd (upd f 0 v) 1 v) 2 v) 3 v) 4 v) 5 v) 6 v) 7 v)))]) := by
  refine ctN (L0 := [some (.ref h), some (.int v), none, none]) (by decide +kernel) (fun h9 => absurd (Or.inl rfl) h9) rfl rfl (fun κ hk hret => ?_)
  have hk : KN G κ cJ7_fill_53178 RJ7 1 0 0 := hk
  refine vn_iconst 1 hk dJ7_fill_53178_0 rfl ic_0 ?_
  refine vn_istore_n (i := 2) 2 [some (.ref h), some (.int v), some (.int (0 : Int32)), none] hk dJ7_fill_53178_1 rfl rfl rfl rfl ?_
  refine vn_aload_n (i := 0) 3 hk dJ7_fill_53178_2 rfl rfl rfl ?_
  refine vn_alen 4 hk dJ7_fill_53178_3 rfl (k0 := 0) rfl al_8 ?_
  refine vn_istore_n (i := 3) 5 [some (.ref h), some (.int v), some (.int (0 : Int32)), some (.int (8 : Int32))] hk dJ7_fill_53178_4 rfl rfl rfl rfl ?_
  refine vn_iload_n (i := 2) 6 hk dJ7_fill_53178_5 rfl rfl rfl ?_
  refine vn_iload_n (i := 3) 7 hk dJ7_fill_53178_6 rfl rfl rfl ?_
  refine vn_geF (t := 20) 10 hk dJ7_fill_53178_7 rfl rfl (by decide +kernel) ?_
  refine vn_aload_n (i := 0) 11 hk dJ7_fill_53178_10 rfl rfl rfl ?_
  refine vn_iload_n (i := 2) 12 hk dJ7_fill_53178_11 rfl rfl rfl ?_
  refine vn_iload_n (i := 1) 13 hk dJ7_fill_53178_12 rfl rfl rfl ?_
  refine vn_iast 14 [(h, .inl (G.2.2 0, 8, .inl (upd f 0 v)))] hk dJ7_fill_53178_13 rfl (k0 := 0) rfl (by decide +kernel) (j := 0) (by decide +kernel) rfl ?_
  refine vn_iinc 17 [some (.ref h), some (.int v), some (.int (1 : Int32)), some (.int (8 : Int32))] hk dJ7_fill_53178_14 rfl rfl (by decide +kernel) rfl ?_
  refine vn_goto 5 hk dJ7_fill_53178_17 rfl ?_
  refine vn_iload_n (i := 2) 6 hk dJ7_fill_53178_5 rfl rfl rfl ?_
  refine vn_iload_n (i := 3) 7 hk dJ7_fill_53178_6 rfl rfl rfl ?_
  refine vn_geF (t := 20) 10 hk dJ7_fill_53178_7 rfl rfl (by decide +kernel) ?_
  refine vn_aload_n (i := 0) 11 hk dJ7_fill_53178_10 rfl rfl rfl ?_
  refine vn_iload_n (i := 2) 12 hk dJ7_fill_53178_11 rfl rfl rfl ?_
  refine vn_iload_n (i := 1) 13 hk dJ7_fill_53178_12 rfl rfl rfl ?_
  refine vn_iast 14 [(h, .inl (G.2.2 0, 8, .inl (upd (upd f 0 v) 1 v)))] hk dJ7_fill_53178_13 rfl (k0 := 0) rfl (by decide +kernel) (j := 1) (by decide +kernel) rfl ?_
  refine vn_iinc 17 [some (.ref h), some (.int v), some (.int (2 : Int32)), some (.int (8 : Int32))] hk dJ7_fill_53178_14 rfl rfl (by decide +kernel) rfl ?_
  refine vn_goto 5 hk dJ7_fill_53178_17 rfl ?_
  refine vn_iload_n (i := 2) 6 hk dJ7_fill_53178_5 rfl rfl rfl ?_
  refine vn_iload_n (i := 3) 7 hk dJ7_fill_53178_6 rfl rfl rfl ?_
  refine vn_geF (t := 20) 10 hk dJ7_fill_53178_7 rfl rfl (by decide +kernel) ?_
  refine vn_aload_n (i := 0) 11 hk dJ7_fill_53178_10 rfl rfl rfl ?_
  refine vn_iload_n (i := 2) 12 hk dJ7_fill_53178_11 rfl rfl rfl ?_
  refine vn_iload_n (i := 1) 13 hk dJ7_fill_53178_12 rfl rfl rfl ?_
  refine vn_iast 14 [(h, .inl (G.2.2 0, 8, .inl (upd (upd (upd f 0 v) 1 v) 2 v)))] hk dJ7_fill_53178_13 rfl (k0 := 0) rfl (by decide +kernel) (j := 2) (by decide +kernel) rfl ?_
  refine vn_iinc 17 [some (.ref h), some (.int v), some (.int (3 : Int32)), some (.int (8 : Int32))] hk dJ7_fill_53178_14 rfl rfl (by decide +kernel) rfl ?_
  refine vn_goto 5 hk dJ7_fill_53178_17 rfl ?_
  refine vn_iload_n (i := 2) 6 hk dJ7_fill_53178_5 rfl rfl rfl ?_
  refine vn_iload_n (i := 3) 7 hk dJ7_fill_53178_6 rfl rfl rfl ?_
  refine vn_geF (t := 20) 10 hk dJ7_fill_53178_7 rfl rfl (by decide +kernel) ?_
  refine vn_aload_n (i := 0) 11 hk dJ7_fill_53178_10 rfl rfl rfl ?_
  refine vn_iload_n (i := 2) 12 hk dJ7_fill_53178_11 rfl rfl rfl ?_
  refine vn_iload_n (i := 1) 13 hk dJ7_fill_53178_12 rfl rfl rfl ?_
  refine vn_iast 14 [(h, .inl (G.2.2 0, 8, .inl (upd (upd (upd (upd f 0 v) 1 v) 2 v) 3 v)))] hk dJ7_fill_53178_13 rfl (k0 := 0) rfl (by decide +kernel) (j := 3) (by decide +kernel) rfl ?_
  refine vn_iinc 17 [some (.ref h), some (.int v), some (.int (4 : Int32)), some (.int (8 : Int32))] hk dJ7_fill_53178_14 rfl rfl (by decide +kernel) rfl ?_
  refine vn_goto 5 hk dJ7_fill_53178_17 rfl ?_
  refine vn_iload_n (i := 2) 6 hk dJ7_fill_53178_5 rfl rfl rfl ?_
  refine vn_iload_n (i := 3) 7 hk dJ7_fill_53178_6 rfl rfl rfl ?_
  refine vn_geF (t := 20) 10 hk dJ7_fill_53178_7 rfl rfl (by decide +kernel) ?_
  refine vn_aload_n (i := 0) 11 hk dJ7_fill_53178_10 rfl rfl rfl ?_
  refine vn_iload_n (i := 2) 12 hk dJ7_fill_53178_11 rfl rfl rfl ?_
  refine vn_iload_n (i := 1) 13 hk dJ7_fill_53178_12 rfl rfl rfl ?_
  refine vn_iast 14 [(h, .inl (G.2.2 0, 8, .inl (upd (upd (upd (upd (upd f 0 v) 1 v) 2 v) 3 v) 4 v)))] hk dJ7_fill_53178_13 rfl (k0 := 0) rfl (by decide +kernel) (j := 4) (by decide +kernel) rfl ?_
  refine vn_iinc 17 [some (.ref h), some (.int v), some (.int (5 : Int32)), some (.int (8 : Int32))] hk dJ7_fill_53178_14 rfl rfl (by decide +kernel) rfl ?_
  refine vn_goto 5 hk dJ7_fill_53178_17 rfl ?_
  refine vn_iload_n (i := 2) 6 hk dJ7_fill_53178_5 rfl rfl rfl ?_
  refine vn_iload_n (i := 3) 7 hk dJ7_fill_53178_6 rfl rfl rfl ?_
  refine vn_geF (t := 20) 10 hk dJ7_fill_53178_7 rfl rfl (by decide +kernel) ?_
  refine vn_aload_n (i := 0) 11 hk dJ7_fill_53178_10 rfl rfl rfl ?_
  refine vn_iload_n (i := 2) 12 hk dJ7_fill_53178_11 rfl rfl rfl ?_
  refine vn_iload_n (i := 1) 13 hk dJ7_fill_53178_12 rfl rfl rfl ?_
  refine vn_iast 14 [(h, .inl (G.2.2 0, 8, .inl (upd (upd (upd (upd (upd (upd f 0 v) 1 v) 2 v) 3 v) 4 v) 5 v)))] hk dJ7_fill_53178_13 rfl (k0 := 0) rfl (by decide +kernel) (j := 5) (by decide +kernel) rfl ?_
  refine vn_iinc 17 [some (.ref h), some (.int v), some (.int (6 : Int32)), some (.int (8 : Int32))] hk dJ7_fill_53178_14 rfl rfl (by decide +kernel) rfl ?_
  refine vn_goto 5 hk dJ7_fill_53178_17 rfl ?_
  refine vn_iload_n (i := 2) 6 hk dJ7_fill_53178_5 rfl rfl rfl ?_
  refine vn_iload_n (i := 3) 7 hk dJ7_fill_53178_6 rfl rfl rfl ?_
  refine vn_geF (t := 20) 10 hk dJ7_fill_53178_7 rfl rfl (by decide +kernel) ?_
  refine vn_aload_n (i := 0) 11 hk dJ7_fill_53178_10 rfl rfl rfl ?_
  refine vn_iload_n (i := 2) 12 hk dJ7_fill_53178_11 rfl rfl rfl ?_
  refine vn_iload_n (i := 1) 13 hk dJ7_fill_53178_12 rfl rfl rfl ?_
  refine vn_iast 14 [(h, .inl (G.2.2 0, 8, .inl (upd (upd (upd (upd (upd (upd (upd f 0 v) 1 v) 2 v) 3 v) 4 v) 5 v) 6 v)))] hk dJ7_fill_53178_13 rfl (k0 := 0) rfl (by decide +kernel) (j := 6) (by decide +kernel) rfl ?_
  refine vn_iinc 17 [some (.ref h), some (.int v), some (.int (7 : Int32)), some (.int (8 : Int32))] hk dJ7_fill_53178_14 rfl rfl (by decide +kernel) rfl ?_
  refine vn_goto 5 hk dJ7_fill_53178_17 rfl ?_
  refine vn_iload_n (i := 2) 6 hk dJ7_fill_53178_5 rfl rfl rfl ?_
  refine vn_iload_n (i := 3) 7 hk dJ7_fill_53178_6 rfl rfl rfl ?_
  refine vn_geF (t := 20) 10 hk dJ7_fill_53178_7 rfl rfl (by decide +kernel) ?_
  refine vn_aload_n (i := 0) 11 hk dJ7_fill_53178_10 rfl rfl rfl ?_
  refine vn_iload_n (i := 2) 12 hk dJ7_fill_53178_11 rfl rfl rfl ?_
  refine vn_iload_n (i := 1) 13 hk dJ7_fill_53178_12 rfl rfl rfl ?_
  refine vn_iast 14 [(h, .inl (G.2.2 0, 8, .inl (upd (upd (upd (upd (upd (upd (upd (upd f 0 v) 1 v) 2 v) 3 v) 4 v) 5 v) 6 v) 7 v)))] hk dJ7_fill_53178_13 rfl (k0 := 0) rfl (by decide +kernel) (j := 7) (by decide +kernel) rfl ?_
  refine vn_iinc 17 [some (.ref h), some (.int v), some (.int (8 : Int32)), some (.int (8 : Int32))] hk dJ7_fill_53178_14 rfl rfl (by decide +kernel) rfl ?_
  refine vn_goto 5 hk dJ7_fill_53178_17 rfl ?_
  refine vn_iload_n (i := 2) 6 hk dJ7_fill_53178_5 rfl rfl rfl ?_
  refine vn_iload_n (i := 3) 7 hk dJ7_fill_53178_6 rfl rfl rfl ?_
  refine vn_geT 20 hk dJ7_fill_53178_7 rfl (by decide +kernel) ?_
  exact hret () _ _ dJ7_fill_53178_20

theorem k_fill9 (G : GT) (h : Nat) (v : Int32) (f : Nat → Int32) : CtN G yJ7_fill_53178 cJ7_fill_53178 4 1 0 0 [.ref h, .int v] [(h, .inl (G.2.2 0, 9, .inl f))] (fun (_ : Unit) => [(h, .inl (G.2.2 0, 9, .inl (upd (upd (upd (upd (upd (upd (upd (upd (upd f 0 v) 1 v) 2 v) 3 v) 4 v) 5 v) 6 v) 7 v) 8 v)))]) := by
  refine ctN (L0 := [some (.ref h), some (.int v), none, none]) (by decide +kernel) (fun h9 => absurd (Or.inl rfl) h9) rfl rfl (fun κ hk hret => ?_)
  have hk : KN G κ cJ7_fill_53178 RJ7 1 0 0 := hk
  refine vn_iconst 1 hk dJ7_fill_53178_0 rfl ic_0 ?_
  refine vn_istore_n (i := 2) 2 [some (.ref h), some (.int v), some (.int (0 : Int32)), none] hk dJ7_fill_53178_1 rfl rfl rfl rfl ?_
  refine vn_aload_n (i := 0) 3 hk dJ7_fill_53178_2 rfl rfl rfl ?_
  refine vn_alen 4 hk dJ7_fill_53178_3 rfl (k0 := 0) rfl al_9 ?_
  refine vn_istore_n (i := 3) 5 [some (.ref h), some (.int v), some (.int (0 : Int32)), some (.int (9 : Int32))] hk dJ7_fill_53178_4 rfl rfl rfl rfl ?_
  refine vn_iload_n (i := 2) 6 hk dJ7_fill_53178_5 rfl rfl rfl ?_
  refine vn_iload_n (i := 3) 7 hk dJ7_fill_53178_6 rfl rfl rfl ?_
  refine vn_geF (t := 20) 10 hk dJ7_fill_53178_7 rfl rfl (by decide +kernel) ?_
  refine vn_aload_n (i := 0) 11 hk dJ7_fill_53178_10 rfl rfl rfl ?_
  refine vn_iload_n (i := 2) 12 hk dJ7_fill_53178_11 rfl rfl rfl ?_
  refine vn_iload_n (i := 1) 13 hk dJ7_fill_53178_12 rfl rfl rfl ?_
  refine vn_iast 14 [(h, .inl (G.2.2 0, 9, .inl (upd f 0 v)))] hk dJ7_fill_53178_13 rfl (k0 := 0) rfl (by decide +kernel) (j := 0) (by decide +kernel) rfl ?_
  refine vn_iinc 17 [some (.ref h), some (.int v), some (.int (1 : Int32)), some (.int (9 : Int32))] hk dJ7_fill_53178_14 rfl rfl (by decide +kernel) rfl ?_
  refine vn_goto 5 hk dJ7_fill_53178_17 rfl ?_
  refine vn_iload_n (i := 2) 6 hk dJ7_fill_53178_5 rfl rfl rfl ?_
  refine vn_iload_n (i := 3) 7 hk dJ7_fill_53178_6 rfl rfl rfl ?_
  refine vn_geF (t := 20) 10 hk dJ7_fill_53178_7 rfl rfl (by decide +kernel) ?_
  refine vn_aload_n (i := 0) 11 hk dJ7_fill_53178_10 rfl rfl rfl ?_
  refine vn_iload_n (i := 2) 12 hk dJ7_fill_53178_11 rfl rfl rfl ?_
  refine vn_iload_n (i := 1) 13 hk dJ7_fill_53178_12 rfl rfl rfl ?_
  refine vn_iast 14 [(h, .inl (G.2.2 0, 9, .inl (upd (upd f 0 v) 1 v)))] hk dJ7_fill_53178_13 rfl (k0 := 0) rfl (by decide +kernel) (j := 1) (by decide +kernel) rfl ?_
  refine vn_iinc 17 [some (.ref h), some (.int v), some (.int (2 : Int32)), some (.int (9 : Int32))] hk dJ7_fill_53178_14 rfl rfl (by decide +kernel) rfl ?_
  refine vn_goto 5 hk dJ7_fill_53178_17 rfl ?_
  refine vn_iload_n (i := 2) 6 hk dJ7_fill_53178_5 rfl rfl rfl ?_
  refine vn_iload_n (i := 3) 7 hk dJ7_fill_53178_6 rfl rfl rfl ?_
  refine vn_geF (t := 20) 10 hk dJ7_fill_53178_7 rfl rfl (by decide +kernel) ?_
  refine vn_aload_n (i := 0) 11 hk dJ7_fill_53178_10 rfl rfl rfl ?_
  refine vn_iload_n (i := 2) 12 hk dJ7_fill_53178_11 rfl rfl rfl ?_
  refine vn_iload_n (i := 1) 13 hk dJ7_fill_53178_12 rfl rfl rfl ?_
  refine vn_iast 14 [(h, .inl (G.2.2 0, 9, .inl (upd (upd (upd f 0 v) 1 v) 2 v)))] hk dJ7_fill_53178_13 rfl (k0 := 0) rfl (by decide +kernel) (j := 2) (by decide +kernel) rfl ?_
  refine vn_iinc 17 [some (.ref h), some (.int v), some (.int (3 : Int32)), some (.int (9 : Int32))] hk dJ7_fill_53178_14 rfl rfl (by decide +kernel) rfl ?_
  refine vn_goto 5 hk dJ7_fill_53178_17 rfl ?_
  refine vn_iload_n (i := 2) 6 hk dJ7_fill_53178_5 rfl rfl rfl ?_
  refine vn_iload_n (i := 3) 7 hk dJ7_fill_53178_6 rfl rfl rfl ?_
  refine vn_geF (t := 20) 10 hk dJ7_fill_53178_7 rfl rfl (by decide +kernel) ?_
  refine vn_aload_n (i := 0) 11 hk dJ7_fill_53178_10 rfl rfl rfl ?_
  refine vn_iload_n (i := 2) 12 hk dJ7_fill_53178_11 rfl rfl rfl ?_
  refine vn_iload_n (i := 1) 13 hk dJ7_fill_53178_12 rfl rfl rfl ?_
  refine vn_iast 14 [(h, .inl (G.2.2 0, 9, .inl (upd (upd (upd (upd f 0 v) 1 v) 2 v) 3 v)))] hk dJ7_fill_53178_13 rfl (k0 := 0) rfl (by decide +kernel) (j := 3) (by decide +kernel) rfl ?_
  refine vn_iinc 17 [some (.ref h), some (.int v), some (.int (4 : Int32)), some (.int (9 : Int32))] hk dJ7_fill_53178_14 rfl rfl (by decide +kernel) rfl ?_
  refine vn_goto 5 hk dJ7_fill_53178_17 rfl ?_
  refine vn_iload_n (i := 2) 6 hk dJ7_fill_53178_5 rfl rfl rfl ?_
  refine vn_iload_n (i := 3) 7 hk dJ7_fill_53178_6 rfl rfl rfl ?_
  refine vn_geF (t := 20) 10 hk dJ7_fill_53178_7 rfl rfl (by decide +kernel) ?_
  refine vn_aload_n (i := 0) 11 hk dJ7_fill_53178_10 rfl rfl rfl ?_
  refine vn_iload_n (i := 2) 12 hk dJ7_fill_53178_11 rfl rfl rfl ?_
  refine vn_iload_n (i := 1) 13 hk dJ7_fill_53178_12 rfl rfl rfl ?_
  refine vn_iast 14 [(h, .inl (G.2.2 0, 9, .inl (upd (upd (upd (upd (upd f 0 v) 1 v) 2 v) 3 v) 4 v)))] hk dJ7_fill_53178_13 rfl (k0 := 0) rfl (by decide +kernel) (j := 4) (by decide +kernel) rfl ?_
  refine vn_iinc 17 [some (.ref h), some (.int v), some (.int (5 : Int32)), some (.int (9 : Int32))] hk dJ7_fill_53178_14 rfl rfl (by decide +kernel) rfl ?_
  refine vn_goto 5 hk dJ7_fill_53178_17 rfl ?_
  refine vn_iload_n (i := 2) 6 hk dJ7_fill_53178_5 rfl rfl rfl ?_
  refine vn_iload_n (i := 3) 7 hk dJ7_fill_53178_6 rfl rfl rfl ?_
  refine vn_geF (t := 20) 10 hk dJ7_fill_53178_7 rfl rfl (by decide +kernel) ?_
  refine vn_aload_n (i := 0) 11 hk dJ7_fill_53178_10 rfl rfl rfl ?_
  refine vn_iload_n (i := 2) 12 hk dJ7_fill_53178_11 rfl rfl rfl ?_
  refine vn_iload_n (i := 1) 13 hk dJ7_fill_53178_12 rfl rfl rfl ?_
  refine vn_iast 14 [(h, .inl (G.2.2 0, 9, .inl (upd (upd (upd (upd (upd (upd f 0 v) 1 v) 2 v) 3 v) 4 v) 5 v)))] hk dJ7_fill_53178_13 rfl (k0 := 0) rfl (by decide +kernel) (j := 5) (by decide +kernel) rfl ?_
  refine vn_iinc 17 [some (.ref h), some (.int v), some (.int (6 : Int32)), some (.int (9 : Int32))] hk dJ7_fill_53178_14 rfl rfl (by decide +kernel) rfl ?_
  refine vn_goto 5 hk dJ7_fill_53178_17 rfl ?_
  refine vn_iload_n (i := 2) 6 hk dJ7_fill_53178_5 rfl rfl rfl ?_
  refine vn_iload_n (i := 3) 7 hk dJ7_fill_53178_6 rfl rfl rfl ?_
  refine vn_geF (t := 20) 10 hk dJ7_fill_53178_7 rfl rfl (by decide +kernel) ?_
  refine vn_aload_n (i := 0) 11 hk dJ7_fill_53178_10 rfl rfl rfl ?_
  refine vn_iload_n (i := 2) 12 hk dJ7_fill_53178_11 rfl rfl rfl ?_
  refine vn_iload_n (i := 1) 13 hk dJ7_fill_53178_12 rfl rfl rfl ?_
  refine vn_iast 14 [(h, .inl (G.2.2 0, 9, .inl (upd (upd (upd (upd (upd (upd (upd f 0 v) 1 v) 2 v) 3 v) 4 v) 5 v) 6 v)))] hk dJ7_fill_53178_13 rfl (k0 := 0) rfl (by decide +kernel) (j := 6) (by decide +kernel) rfl ?_
  refine vn_iinc 17 [some (.ref h), some (.int v), some (.int (7 : Int32)), some (.int (9 : Int32))] hk dJ7_fill_53178_14 rfl rfl (by decide +kernel) rfl ?_
  refine vn_goto 5 hk dJ7_fill_53178_17 rfl ?_
  refine vn_iload_n (i := 2) 6 hk dJ7_fill_53178_5 rfl rfl rfl ?_
  refine vn_iload_n (i := 3) 7 hk dJ7_fill_53178_6 rfl rfl rfl ?_
  refine vn_geF (t := 20) 10 hk dJ7_fill_53178_7 rfl rfl (by decide +kernel) ?_
  refine vn_aload_n (i := 0) 11 hk dJ7_fill_53178_10 rfl rfl rfl ?_
  refine vn_iload_n (i := 2) 12 hk dJ7_fill_53178_11 rfl rfl rfl ?_
  refine vn_iload_n (i := 1) 13 hk dJ7_fill_53178_12 rfl rfl rfl ?_
  refine vn_iast 14 [(h, .inl (G.2.2 0, 9, .inl (upd (upd (upd (upd (upd (upd (upd (upd f 0 v) 1 v) 2 v) 3 v) 4 v) 5 v) 6 v) 7 v)))] hk dJ7_fill_53178_13 rfl (k0 := 0) rfl (by decide +kernel) (j := 7) (by decide +kernel) rfl ?_
  refine vn_iinc 17 [some (.ref h), some (.int v), some (.int (8 : Int32)), some (.int (9 : Int32))] hk dJ7_fill_53178_14 rfl rfl (by decide +kernel) rfl ?_
  refine vn_goto 5 hk dJ7_fill_53178_17 rfl ?_
  refine vn_iload_n (i := 2) 6 hk dJ7_fill_53178_5 rfl rfl rfl ?_
  refine vn_iload_n (i := 3) 7 hk dJ7_fill_53178_6 rfl rfl rfl ?_
  refine vn_geF (t := 20) 10 hk dJ7_fill_53178_7 rfl rfl (by decide +kernel) ?_
  refine vn_aload_n (i := 0) 11 hk dJ7_fill_53178_10 rfl rfl rfl ?_
  refine vn_iload_n (i := 2) 12 hk dJ7_fill_53178_11 rfl rfl rfl ?_
  refine vn_iload_n (i := 1) 13 hk dJ7_fill_53178_12 rfl rfl rfl ?_
  refine vn_iast 14 [(h, .inl (G.2.2 0, 9, .inl (upd (upd (upd (upd (upd (upd (upd (upd (upd f 0 v) 1 v) 2 v) 3 v) 4 v) 5 v) 6 v) 7 v) 8 v)))] hk dJ7_fill_53178_13 rfl (k0 := 0) rfl (by decide +kernel) (j := 8) (by decide +kernel) rfl ?_
  refine vn_iinc 17 [some (.ref h), some (.int v), some (.int (9 : Int32)), some (.int (9 : Int32))] hk dJ7_fill_53178_14 rfl rfl (by decide +kernel) rfl ?_
  refine vn_goto 5 hk dJ7_fill_53178_17 rfl ?_
  refine vn_iload_n (i := 2) 6 hk dJ7_fill_53178_5 rfl rfl rfl ?_
  refine vn_iload_n (i := 3) 7 hk dJ7_fill_53178_6 rfl rfl rfl ?_
  refine vn_geT 20 hk dJ7_fill_53178_7 rfl (by decide +kernel) ?_
  exact hret () _ _ dJ7_fill_53178_20

theorem k_5 (G : GT) (h : Nat) : CtN G yX5_init cX5_init 1 1 11 146 [.ref h] [(h, .inr (5, [.int 0, .null, .null, .null, .null, .null, .int 0, .null, .null, .null, .int 0, .int 0, .null, .null, .null, .int 0]))] (fun (u : Nat × Nat × Nat × Nat × Nat × Nat × Nat × Nat × Nat × Nat × Nat) => match u with | (q1, q2, q3, q4, q5, q6, q7, q8, q9, q10, q11) => [(h, .inr (5, [.int 0, .ref q1, .ref q2, .ref q3, .ref q4, .ref q5, .int 0, .ref q6, .ref q7, .ref q8, .int 0, .int 0, .ref q9, .ref q10, .ref q11, .int 0])), (q1, .inl (G.2.2 0, 5, .inl (fun _ => 0))), (q2, .inl (G.2.2 0, 5, .inl (fun _ => 0))), (q3, .inl (G.2.2 0, 5, .inl (fun _ => 0))), (q4, .inl (G.2.2 0, 40, .inl (fun _ => 0))), (q5, .inl (G.2.2 0, 15, .inl (fun _ => 0))), (q6, .inl (G.2.2 0, 12, .inl (fun _ => 0))), (q7, .inl (G.2.2 0, 12, .inl (fun _ => 0))), (q8, .inl (G.2.2 0, 12, .inl (fun _ => 0))), (q9, .inl (G.2.2 0, 8, .inl (fun _ => 0))), (q10, .inl (G.2.2 0, 24, .inl (fun _ => 0))), (q11, .inl (G.2.2 0, 8, .inl (fun _ => 0)))]) := by
  refine ctN (L0 := [some (.ref h)]) (by decide +kernel) (fun h9 => rfl) rfl rfl (fun κ hk hret => ?_)
  have hk : KN G κ cX5_init RX5 1 11 146 := hk
  refine vn_aload_n (i := 0) 1 hk dX5_init_0 rfl rfl rfl ?_
  refine vn_obj 4 hk dX5_init_1 rfl ml_5_3 rfl rfl rfl rfl ?_
  refine vn_aload_n (i := 0) 5 hk dX5_init_4 rfl rfl rfl ?_
  refine vn_iconst 6 hk dX5_init_5 rfl ic_5 ?_
  refine vn_newa (t := 0) (a0 := (5, .inl (fun _ => 0))) 8 (fun q1 => [(h, .inr (5, [.int 0, .null, .null, .null, .null, .null, .int 0, .null, .null, .null, .int 0, .int 0, .null, .null, .null, .int 0])), (q1, .inl (G.2.2 0, 5, .inl (fun _ => 0)))]) hk dX5_init_6 rfl rfl ac_int rfl (fun _ _ h9 => h9) (fun _ => rfl) (by decide +kernel) (by decide +kernel) rfl rfl rfl (fun _ => rfl) (fun q1 => ?_)
  refine vn_cs (nc' := 1) (ns' := 5) rfl rfl ?_
  refine vn_putR 11 [(h, .inr (5, [.int 0, .ref q1, .null, .null, .null, .null, .int 0, .null, .null, .null, .int 0, .int 0, .null, .null, .null, .int 0])), (q1, .inl (G.2.2 0, 5, .inl (fun _ => 0)))] hk dX5_init_8 rfl (k0 := 0) rfl ci_5 rfl fl_5_9 rfl rfl (by decide +kernel) rfl rfl rfl rfl ?_
  refine vn_aload_n (i := 0) 12 hk dX5_init_11 rfl rfl rfl ?_
  refine vn_iconst 13 hk dX5_init_12 rfl ic_5 ?_
  refine vn_newa (t := 0) (a0 := (5, .inl (fun _ => 0))) 15 (fun q2 => [(h, .inr (5, [.int 0, .ref q1, .null, .null, .null, .null, .int 0, .null, .null, .null, .int 0, .int 0, .null, .null, .null, .int 0])), (q1, .inl (G.2.2 0, 5, .inl (fun _ => 0))), (q2, .inl (G.2.2 0, 5, .inl (fun _ => 0)))]) hk dX5_init_13 rfl rfl ac_int rfl (fun _ _ h9 => h9) (fun _ => rfl) (by decide +kernel) (by decide +kernel) rfl rfl rfl (fun _ => rfl) (fun q2 => ?_)
  refine vn_cs (nc' := 2) (ns' := 10) rfl rfl ?_
  refine vn_putR 18 [(h, .inr (5, [.int 0, .ref q1, .ref q2, .null, .null, .null, .int 0, .null, .null, .null, .int 0, .int 0, .null, .null, .null, .int 0])), (q1, .inl (G.2.2 0, 5, .inl (fun _ => 0))), (q2, .inl (G.2.2 0, 5, .inl (fun _ => 0)))] hk dX5_init_15 rfl (k0 := 0) rfl ci_5 rfl fl_5_15 rfl rfl (by decide +kernel) rfl rfl rfl rfl ?_
  refine vn_aload_n (i := 0) 19 hk dX5_init_18 rfl rfl rfl ?_
  refine vn_iconst 20 hk dX5_init_19 rfl ic_5 ?_
  refine vn_newa (t := 0) (a0 := (5, .inl (fun _ => 0))) 22 (fun q3 => [(h, .inr (5, [.int 0, .ref q1, .ref q2, .null, .null, .null, .int 0, .null, .null, .null, .int 0, .int 0, .null, .null, .null, .int 0])), (q1, .inl (G.2.2 0, 5, .inl (fun _ => 0))), (q2, .inl (G.2.2 0, 5, .inl (fun _ => 0))), (q3, .inl (G.2.2 0, 5, .inl (fun _ => 0)))]) hk dX5_init_20 rfl rfl ac_int rfl (fun _ _ h9 => h9) (fun _ => rfl) (by decide +kernel) (by decide +kernel) rfl rfl rfl (fun _ => rfl) (fun q3 => ?_)
  refine vn_cs (nc' := 3) (ns' := 15) rfl rfl ?_
  refine vn_putR 25 [(h, .inr (5, [.int 0, .ref q1, .ref q2, .ref q3, .null, .null, .int 0, .null, .null, .null, .int 0, .int 0, .null, .null, .null, .int 0])), (q1, .inl (G.2.2 0, 5, .inl (fun _ => 0))), (q2, .inl (G.2.2 0, 5, .inl (fun _ => 0))), (q3, .inl (G.2.2 0, 5, .inl (fun _ => 0)))] hk dX5_init_22 rfl (k0 := 0) rfl ci_5 rfl fl_5_18 rfl rfl (by decide +kernel) rfl rfl rfl rfl ?_
  refine vn_aload_n (i := 0) 26 hk dX5_init_25 rfl rfl rfl ?_
  refine vn_bipush 28 hk dX5_init_26 rfl bp_40 ?_
  refine vn_newa (t := 0) (a0 := (40, .inl (fun _ => 0))) 30 (fun q4 => [(h, .inr (5, [.int 0, .ref q1, .ref q2, .ref q3, .null, .null, .int 0, .null, .null, .null, .int 0, .int 0, .null, .null, .null, .int 0])), (q1, .inl (G.2.2 0, 5, .inl (fun _ => 0))), (q2, .inl (G.2.2 0, 5, .inl (fun _ => 0))), (q3, .inl (G.2.2 0, 5, .inl (fun _ => 0))), (q4, .inl (G.2.2 0, 40, .inl (fun _ => 0)))]) hk dX5_init_28 rfl rfl ac_int rfl (fun _ _ h9 => h9) (fun _ => rfl) (by decide +kernel) (by decide +kernel) rfl rfl rfl (fun _ => rfl) (fun q4 => ?_)
  refine vn_cs (nc' := 4) (ns' := 55) rfl rfl ?_
  refine vn_putR 33 [(h, .inr (5, [.int 0, .ref q1, .ref q2, .ref q3, .ref q4, .null, .int 0, .null, .null, .null, .int 0, .int 0, .null, .null, .null, .int 0])), (q1, .inl (G.2.2 0, 5, .inl (fun _ => 0))), (q2, .inl (G.2.2 0, 5, .inl (fun _ => 0))), (q3, .inl (G.2.2 0, 5, .inl (fun _ => 0))), (q4, .inl (G.2.2 0, 40, .inl (fun _ => 0)))] hk dX5_init_30 rfl (k0 := 0) rfl ci_5 rfl fl_5_21 rfl rfl (by decide +kernel) rfl rfl rfl rfl ?_
  refine vn_aload_n (i := 0) 34 hk dX5_init_33 rfl rfl rfl ?_
  refine vn_bipush 36 hk dX5_init_34 rfl bp_15 ?_
  refine vn_newa (t := 0) (a0 := (15, .inl (fun _ => 0))) 38 (fun q5 => [(h, .inr (5, [.int 0, .ref q1, .ref q2, .ref q3, .ref q4, .null, .int 0, .null, .null, .null, .int 0, .int 0, .null, .null, .null, .int 0])), (q1, .inl (G.2.2 0, 5, .inl (fun _ => 0))), (q2, .inl (G.2.2 0, 5, .inl (fun _ => 0))), (q3, .inl (G.2.2 0, 5, .inl (fun _ => 0))), (q4, .inl (G.2.2 0, 40, .inl (fun _ => 0))), (q5, .inl (G.2.2 0, 15, .inl (fun _ => 0)))]) hk dX5_init_36 rfl rfl ac_int rfl (fun _ _ h9 => h9) (fun _ => rfl) (by decide +kernel) (by decide +kernel) rfl rfl rfl (fun _ => rfl) (fun q5 => ?_)
  refine vn_cs (nc' := 5) (ns' := 70) rfl rfl ?_
  refine vn_putR 41 [(h, .inr (5, [.int 0, .ref q1, .ref q2, .ref q3, .ref q4, .ref q5, .int 0, .null, .null, .null, .int 0, .int 0, .null, .null, .null, .int 0])), (q1, .inl (G.2.2 0, 5, .inl (fun _ => 0))), (q2, .inl (G.2.2 0, 5, .inl (fun _ => 0))), (q3, .inl (G.2.2 0, 5, .inl (fun _ => 0))), (q4, .inl (G.2.2 0, 40, .inl (fun _ => 0))), (q5, .inl (G.2.2 0, 15, .inl (fun _ => 0)))] hk dX5_init_38 rfl (k0 := 0) rfl ci_5 rfl fl_5_24 rfl rfl (by decide +kernel) rfl rfl rfl rfl ?_
  refine vn_aload_n (i := 0) 42 hk dX5_init_41 rfl rfl rfl ?_
  refine vn_bipush 44 hk dX5_init_42 rfl bp_12 ?_
  refine vn_newa (t := 0) (a0 := (12, .inl (fun _ => 0))) 46 (fun q6 => [(h, .inr (5, [.int 0, .ref q1, .ref q2, .ref q3, .ref q4, .ref q5, .int 0, .null, .null, .null, .int 0, .int 0, .null, .null, .null, .int 0])), (q1, .inl (G.2.2 0, 5, .inl (fun _ => 0))), (q2, .inl (G.2.2 0, 5, .inl (fun _ => 0))), (q3, .inl (G.2.2 0, 5, .inl (fun _ => 0))), (q4, .inl (G.2.2 0, 40, .inl (fun _ => 0))), (q5, .inl (G.2.2 0, 15, .inl (fun _ => 0))), (q6, .inl (G.2.2 0, 12, .inl (fun _ => 0)))]) hk dX5_init_44 rfl rfl ac_int rfl (fun _ _ h9 => h9) (fun _ => rfl) (by decide +kernel) (by decide +kernel) rfl rfl rfl (fun _ => rfl) (fun q6 => ?_)
  refine vn_cs (nc' := 6) (ns' := 82) rfl rfl ?_
  refine vn_putR 49 [(h, .inr (5, [.int 0, .ref q1, .ref q2, .ref q3, .ref q4, .ref q5, .int 0, .ref q6, .null, .null, .int 0, .int 0, .null, .null, .null, .int 0])), (q1, .inl (G.2.2 0, 5, .inl (fun _ => 0))), (q2, .inl (G.2.2 0, 5, .inl (fun _ => 0))), (q3, .inl (G.2.2 0, 5, .inl (fun _ => 0))), (q4, .inl (G.2.2 0, 40, .inl (fun _ => 0))), (q5, .inl (G.2.2 0, 15, .inl (fun _ => 0))), (q6, .inl (G.2.2 0, 12, .inl (fun _ => 0)))] hk dX5_init_46 rfl (k0 := 0) rfl ci_5 rfl fl_5_27 rfl rfl (by decide +kernel) rfl rfl rfl rfl ?_
  refine vn_aload_n (i := 0) 50 hk dX5_init_49 rfl rfl rfl ?_
  refine vn_bipush 52 hk dX5_init_50 rfl bp_12 ?_
  refine vn_newa (t := 0) (a0 := (12, .inl (fun _ => 0))) 54 (fun q7 => [(h, .inr (5, [.int 0, .ref q1, .ref q2, .ref q3, .ref q4, .ref q5, .int 0, .ref q6, .null, .null, .int 0, .int 0, .null, .null, .null, .int 0])), (q1, .inl (G.2.2 0, 5, .inl (fun _ => 0))), (q2, .inl (G.2.2 0, 5, .inl (fun _ => 0))), (q3, .inl (G.2.2 0, 5, .inl (fun _ => 0))), (q4, .inl (G.2.2 0, 40, .inl (fun _ => 0))), (q5, .inl (G.2.2 0, 15, .inl (fun _ => 0))), (q6, .inl (G.2.2 0, 12, .inl (fun _ => 0))), (q7, .inl (G.2.2 0, 12, .inl (fun _ => 0)))]) hk dX5_init_52 rfl rfl ac_int rfl (fun _ _ h9 => h9) (fun _ => rfl) (by decide +kernel) (by decide +kernel) rfl rfl rfl (fun _ => rfl) (fun q7 => ?_)
  refine vn_cs (nc' := 7) (ns' := 94) rfl rfl ?_
  refine vn_putR 57 [(h, .inr (5, [.int 0, .ref q1, .ref q2, .ref q3, .ref q4, .ref q5, .int 0, .ref q6, .ref q7, .null, .int 0, .int 0, .null, .null, .null, .int 0])), (q1, .inl (G.2.2 0, 5, .inl (fun _ => 0))), (q2, .inl (G.2.2 0, 5, .inl (fun _ => 0))), (q3, .inl (G.2.2 0, 5, .inl (fun _ => 0))), (q4, .inl (G.2.2 0, 40, .inl (fun _ => 0))), (q5, .inl (G.2.2 0, 15, .inl (fun _ => 0))), (q6, .inl (G.2.2 0, 12, .inl (fun _ => 0))), (q7, .inl (G.2.2 0, 12, .inl (fun _ => 0)))] hk dX5_init_54 rfl (k0 := 0) rfl ci_5 rfl fl_5_30 rfl rfl (by decide +kernel) rfl rfl rfl rfl ?_
  refine vn_aload_n (i := 0) 58 hk dX5_init_57 rfl rfl rfl ?_
  refine vn_bipush 60 hk dX5_init_58 rfl bp_12 ?_
  refine vn_newa (t := 0) (a0 := (12, .inl (fun _ => 0))) 62 (fun q8 => [(h, .inr (5, [.int 0, .ref q1, .ref q2, .ref q3, .ref q4, .ref q5, .int 0, .ref q6, .ref q7, .null, .int 0, .int 0, .null, .null, .null, .int 0])), (q1, .inl (G.2.2 0, 5, .inl (fun _ => 0))), (q2, .inl (G.2.2 0, 5, .inl (fun _ => 0))), (q3, .inl (G.2.2 0, 5, .inl (fun _ => 0))), (q4, .inl (G.2.2 0, 40, .inl (fun _ => 0))), (q5, .inl (G.2.2 0, 15, .inl (fun _ => 0))), (q6, .inl (G.2.2 0, 12, .inl (fun _ => 0))), (q7, .inl (G.2.2 0, 12, .inl (fun _ => 0))), (q8, .inl (G.2.2 0, 12, .inl (fun _ => 0)))]) hk dX5_init_60 rfl rfl ac_int rfl (fun _ _ h9 => h9) (fun _ => rfl) (by decide +kernel) (by decide +kernel) rfl rfl rfl (fun _ => rfl) (fun q8 => ?_)
  refine vn_cs (nc' := 8) (ns' := 106) rfl rfl ?_
  refine vn_putR 65 [(h, .inr (5, [.int 0, .ref q1, .ref q2, .ref q3, .ref q4, .ref q5, .int 0, .ref q6, .ref q7, .ref q8, .int 0, .int 0, .null, .null, .null, .int 0])), (q1, .inl (G.2.2 0, 5, .inl (fun _ => 0))), (q2, .inl (G.2.2 0, 5, .inl (fun _ => 0))), (q3, .inl (G.2.2 0, 5, .inl (fun _ => 0))), (q4, .inl (G.2.2 0, 40, .inl (fun _ => 0))), (q5, .inl (G.2.2 0, 15, .inl (fun _ => 0))), (q6, .inl (G.2.2 0, 12, .inl (fun _ => 0))), (q7, .inl (G.2.2 0, 12, .inl (fun _ => 0))), (q8, .inl (G.2.2 0, 12, .inl (fun _ => 0)))] hk dX5_init_62 rfl (k0 := 0) rfl ci_5 rfl fl_5_33 rfl rfl (by decide +kernel) rfl rfl rfl rfl ?_
  refine vn_aload_n (i := 0) 66 hk dX5_init_65 rfl rfl rfl ?_
  refine vn_bipush 68 hk dX5_init_66 rfl bp_8 ?_
  refine vn_newa (t := 0) (a0 := (8, .inl (fun _ => 0))) 70 (fun q9 => [(h, .inr (5, [.int 0, .ref q1, .ref q2, .ref q3, .ref q4, .ref q5, .int 0, .ref q6, .ref q7, .ref q8, .int 0, .int 0, .null, .null, .null, .int 0])), (q1, .inl (G.2.2 0, 5, .inl (fun _ => 0))), (q2, .inl (G.2.2 0, 5, .inl (fun _ => 0))), (q3, .inl (G.2.2 0, 5, .inl (fun _ => 0))), (q4, .inl (G.2.2 0, 40, .inl (fun _ => 0))), (q5, .inl (G.2.2 0, 15, .inl (fun _ => 0))), (q6, .inl (G.2.2 0, 12, .inl (fun _ => 0))), (q7, .inl (G.2.2 0, 12, .inl (fun _ => 0))), (q8, .inl (G.2.2 0, 12, .inl (fun _ => 0))), (q9, .inl (G.2.2 0, 8, .inl (fun _ => 0)))]) hk dX5_init_68 rfl rfl ac_int rfl (fun _ _ h9 => h9) (fun _ => rfl) (by decide +kernel) (by decide +kernel) rfl rfl rfl (fun _ => rfl) (fun q9 => ?_)
  refine vn_cs (nc' := 9) (ns' := 114) rfl rfl ?_
  refine vn_putR 73 [(h, .inr (5, [.int 0, .ref q1, .ref q2, .ref q3, .ref q4, .ref q5, .int 0, .ref q6, .ref q7, .ref q8, .int 0, .int 0, .ref q9, .null, .null, .int 0])), (q1, .inl (G.2.2 0, 5, .inl (fun _ => 0))), (q2, .inl (G.2.2 0, 5, .inl (fun _ => 0))), (q3, .inl (G.2.2 0, 5, .inl (fun _ => 0))), (q4, .inl (G.2.2 0, 40, .inl (fun _ => 0))), (q5, .inl (G.2.2 0, 15, .inl (fun _ => 0))), (q6, .inl (G.2.2 0, 12, .inl (fun _ => 0))), (q7, .inl (G.2.2 0, 12, .inl (fun _ => 0))), (q8, .inl (G.2.2 0, 12, .inl (fun _ => 0))), (q9, .inl (G.2.2 0, 8, .inl (fun _ => 0)))] hk dX5_init_70 rfl (k0 := 0) rfl ci_5 rfl fl_5_36 rfl rfl (by decide +kernel) rfl rfl rfl rfl ?_
  refine vn_aload_n (i := 0) 74 hk dX5_init_73 rfl rfl rfl ?_
  refine vn_bipush 76 hk dX5_init_74 rfl bp_24 ?_
  refine vn_newa (t := 0) (a0 := (24, .inl (fun _ => 0))) 78 (fun q10 => [(h, .inr (5, [.int 0, .ref q1, .ref q2, .ref q3, .ref q4, .ref q5, .int 0, .ref q6, .ref q7, .ref q8, .int 0, .int 0, .ref q9, .null, .null, .int 0])), (q1, .inl (G.2.2 0, 5, .inl (fun _ => 0))), (q2, .inl (G.2.2 0, 5, .inl (fun _ => 0))), (q3, .inl (G.2.2 0, 5, .inl (fun _ => 0))), (q4, .inl (G.2.2 0, 40, .inl (fun _ => 0))), (q5, .inl (G.2.2 0, 15, .inl (fun _ => 0))), (q6, .inl (G.2.2 0, 12, .inl (fun _ => 0))), (q7, .inl (G.2.2 0, 12, .inl (fun _ => 0))), (q8, .inl (G.2.2 0, 12, .inl (fun _ => 0))), (q9, .inl (G.2.2 0, 8, .inl (fun _ => 0))), (q10, .inl (G.2.2 0, 24, .inl (fun _ => 0)))]) hk dX5_init_76 rfl rfl ac_int rfl (fun _ _ h9 => h9) (fun _ => rfl) (by decide +kernel) (by decide +kernel) rfl rfl rfl (fun _ => rfl) (fun q10 => ?_)
  refine vn_cs (nc' := 10) (ns' := 138) rfl rfl ?_
  refine vn_putR 81 [(h, .inr (5, [.int 0, .ref q1, .ref q2, .ref q3, .ref q4, .ref q5, .int 0, .ref q6, .ref q7, .ref q8, .int 0, .int 0, .ref q9, .ref q10, .null, .int 0])), (q1, .inl (G.2.2 0, 5, .inl (fun _ => 0))), (q2, .inl (G.2.2 0, 5, .inl (fun _ => 0))), (q3, .inl (G.2.2 0, 5, .inl (fun _ => 0))), (q4, .inl (G.2.2 0, 40, .inl (fun _ => 0))), (q5, .inl (G.2.2 0, 15, .inl (fun _ => 0))), (q6, .inl (G.2.2 0, 12, .inl (fun _ => 0))), (q7, .inl (G.2.2 0, 12, .inl (fun _ => 0))), (q8, .inl (G.2.2 0, 12, .inl (fun _ => 0))), (q9, .inl (G.2.2 0, 8, .inl (fun _ => 0))), (q10, .inl (G.2.2 0, 24, .inl (fun _ => 0)))] hk dX5_init_78 rfl (k0 := 0) rfl ci_5 rfl fl_5_39 rfl rfl (by decide +kernel) rfl rfl rfl rfl ?_
  refine vn_aload_n (i := 0) 82 hk dX5_init_81 rfl rfl rfl ?_
  refine vn_bipush 84 hk dX5_init_82 rfl bp_8 ?_
  refine vn_newa (t := 0) (a0 := (8, .inl (fun _ => 0))) 86 (fun q11 => [(h, .inr (5, [.int 0, .ref q1, .ref q2, .ref q3, .ref q4, .ref q5, .int 0, .ref q6, .ref q7, .ref q8, .int 0, .int 0, .ref q9, .ref q10, .null, .int 0])), (q1, .inl (G.2.2 0, 5, .inl (fun _ => 0))), (q2, .inl (G.2.2 0, 5, .inl (fun _ => 0))), (q3, .inl (G.2.2 0, 5, .inl (fun _ => 0))), (q4, .inl (G.2.2 0, 40, .inl (fun _ => 0))), (q5, .inl (G.2.2 0, 15, .inl (fun _ => 0))), (q6, .inl (G.2.2 0, 12, .inl (fun _ => 0))), (q7, .inl (G.2.2 0, 12, .inl (fun _ => 0))), (q8, .inl (G.2.2 0, 12, .inl (fun _ => 0))), (q9, .inl (G.2.2 0, 8, .inl (fun _ => 0))), (q10, .inl (G.2.2 0, 24, .inl (fun _ => 0))), (q11, .inl (G.2.2 0, 8, .inl (fun _ => 0)))]) hk dX5_init_84 rfl rfl ac_int rfl (fun _ _ h9 => h9) (fun _ => rfl) (by decide +kernel) (by decide +kernel) rfl rfl rfl (fun _ => rfl) (fun q11 => ?_)
  refine vn_cs (nc' := 11) (ns' := 146) rfl rfl ?_
  refine vn_putR 89 [(h, .inr (5, [.int 0, .ref q1, .ref q2, .ref q3, .ref q4, .ref q5, .int 0, .ref q6, .ref q7, .ref q8, .int 0, .int 0, .ref q9, .ref q10, .ref q11, .int 0])), (q1, .inl (G.2.2 0, 5, .inl (fun _ => 0))), (q2, .inl (G.2.2 0, 5, .inl (fun _ => 0))), (q3, .inl (G.2.2 0, 5, .inl (fun _ => 0))), (q4, .inl (G.2.2 0, 40, .inl (fun _ => 0))), (q5, .inl (G.2.2 0, 15, .inl (fun _ => 0))), (q6, .inl (G.2.2 0, 12, .inl (fun _ => 0))), (q7, .inl (G.2.2 0, 12, .inl (fun _ => 0))), (q8, .inl (G.2.2 0, 12, .inl (fun _ => 0))), (q9, .inl (G.2.2 0, 8, .inl (fun _ => 0))), (q10, .inl (G.2.2 0, 24, .inl (fun _ => 0))), (q11, .inl (G.2.2 0, 8, .inl (fun _ => 0)))] hk dX5_init_86 rfl (k0 := 0) rfl ci_5 rfl fl_5_42 rfl rfl (by decide +kernel) rfl rfl rfl rfl ?_
  exact hret (q1, q2, q3, q4, q5, q6, q7, q8, q9, q10, q11) _ _ dX5_init_89

theorem k_4 (G : GT) (h : Nat) : CtN G yX4_init cX4_init 1 1 5 72 [.ref h] [(h, .inr (4, [.int 0, .int 0, .null, .null, .null, .null, .null]))] (fun (u : Nat × Nat × Nat × Nat × Nat) => match u with | (q1, q2, q3, q4, q5) => [(h, .inr (4, [.int 0, .int 0, .ref q1, .ref q2, .ref q3, .ref q4, .ref q5])), (q1, .inl (G.2.2 0, 15, .inl (fun _ => 0))), (q2, .inl (G.2.2 0, 15, .inl (fun _ => 0))), (q3, .inl (G.2.2 0, 24, .inl (fun _ => 0))), (q4, .inl (G.2.2 0, 3, .inl (fun _ => 0))), (q5, .inl (G.2.2 0, 15, .inl (fun _ => 0)))]) := by
  refine ctN (L0 := [some (.ref h)]) (by decide +kernel) (fun h9 => rfl) rfl rfl (fun κ hk hret => ?_)
  have hk : KN G κ cX4_init RX4 1 5 72 := hk
  refine vn_aload_n (i := 0) 1 hk dX4_init_0 rfl rfl rfl ?_
  refine vn_obj 4 hk dX4_init_1 rfl ml_4_3 rfl rfl rfl rfl ?_
  refine vn_aload_n (i := 0) 5 hk dX4_init_4 rfl rfl rfl ?_
  refine vn_bipush 7 hk dX4_init_5 rfl bp_15 ?_
  refine vn_newa (t := 0) (a0 := (15, .inl (fun _ => 0))) 9 (fun q1 => [(h, .inr (4, [.int 0, .int 0, .null, .null, .null, .null, .null])), (q1, .inl (G.2.2 0, 15, .inl (fun _ => 0)))]) hk dX4_init_7 rfl rfl ac_int rfl (fun _ _ h9 => h9) (fun _ => rfl) (by decide +kernel) (by decide +kernel) rfl rfl rfl (fun _ => rfl) (fun q1 => ?_)
  refine vn_cs (nc' := 1) (ns' := 15) rfl rfl ?_
  refine vn_putR 12 [(h, .inr (4, [.int 0, .int 0, .ref q1, .null, .null, .null, .null])), (q1, .inl (G.2.2 0, 15, .inl (fun _ => 0)))] hk dX4_init_9 rfl (k0 := 0) rfl ci_4 rfl fl_4_9 rfl rfl (by decide +kernel) rfl rfl rfl rfl ?_
  refine vn_aload_n (i := 0) 13 hk dX4_init_12 rfl rfl rfl ?_
  refine vn_bipush 15 hk dX4_init_13 rfl bp_15 ?_
  refine vn_newa (t := 0) (a0 := (15, .inl (fun _ => 0))) 17 (fun q2 => [(h, .inr (4, [.int 0, .int 0, .ref q1, .null, .null, .null, .null])), (q1, .inl (G.2.2 0, 15, .inl (fun _ => 0))), (q2, .inl (G.2.2 0, 15, .inl (fun _ => 0)))]) hk dX4_init_15 rfl rfl ac_int rfl (fun _ _ h9 => h9) (fun _ => rfl) (by decide +kernel) (by decide +kernel) rfl rfl rfl (fun _ => rfl) (fun q2 => ?_)
  refine vn_cs (nc' := 2) (ns' := 30) rfl rfl ?_
  refine vn_putR 20 [(h, .inr (4, [.int 0, .int 0, .ref q1, .ref q2, .null, .null, .null])), (q1, .inl (G.2.2 0, 15, .inl (fun _ => 0))), (q2, .inl (G.2.2 0, 15, .inl (fun _ => 0)))] hk dX4_init_17 rfl (k0 := 0) rfl ci_4 rfl fl_4_15 rfl rfl (by decide +kernel) rfl rfl rfl rfl ?_
  refine vn_aload_n (i := 0) 21 hk dX4_init_20 rfl rfl rfl ?_
  refine vn_bipush 23 hk dX4_init_21 rfl bp_24 ?_
  refine vn_newa (t := 0) (a0 := (24, .inl (fun _ => 0))) 25 (fun q3 => [(h, .inr (4, [.int 0, .int 0, .ref q1, .ref q2, .null, .null, .null])), (q1, .inl (G.2.2 0, 15, .inl (fun _ => 0))), (q2, .inl (G.2.2 0, 15, .inl (fun _ => 0))), (q3, .inl (G.2.2 0, 24, .inl (fun _ => 0)))]) hk dX4_init_23 rfl rfl ac_int rfl (fun _ _ h9 => h9) (fun _ => rfl) (by decide +kernel) (by decide +kernel) rfl rfl rfl (fun _ => rfl) (fun q3 => ?_)
  refine vn_cs (nc' := 3) (ns' := 54) rfl rfl ?_
  refine vn_putR 28 [(h, .inr (4, [.int 0, .int 0, .ref q1, .ref q2, .ref q3, .null, .null])), (q1, .inl (G.2.2 0, 15, .inl (fun _ => 0))), (q2, .inl (G.2.2 0, 15, .inl (fun _ => 0))), (q3, .inl (G.2.2 0, 24, .inl (fun _ => 0)))] hk dX4_init_25 rfl (k0 := 0) rfl ci_4 rfl fl_4_18 rfl rfl (by decide +kernel) rfl rfl rfl rfl ?_
  refine vn_aload_n (i := 0) 29 hk dX4_init_28 rfl rfl rfl ?_
  refine vn_iconst 30 hk dX4_init_29 rfl ic_3 ?_
  refine vn_newa (t := 0) (a0 := (3, .inl (fun _ => 0))) 32 (fun q4 => [(h, .inr (4, [.int 0, .int 0, .ref q1, .ref q2, .ref q3, .null, .null])), (q1, .inl (G.2.2 0, 15, .inl (fun _ => 0))), (q2, .inl (G.2.2 0, 15, .inl (fun _ => 0))), (q3, .inl (G.2.2 0, 24, .inl (fun _ => 0))), (q4, .inl (G.2.2 0, 3, .inl (fun _ => 0)))]) hk dX4_init_30 rfl rfl ac_int rfl (fun _ _ h9 => h9) (fun _ => rfl) (by decide +kernel) (by decide +kernel) rfl rfl rfl (fun _ => rfl) (fun q4 => ?_)
  refine vn_cs (nc' := 4) (ns' := 57) rfl rfl ?_
  refine vn_putR 35 [(h, .inr (4, [.int 0, .int 0, .ref q1, .ref q2, .ref q3, .ref q4, .null])), (q1, .inl (G.2.2 0, 15, .inl (fun _ => 0))), (q2, .inl (G.2.2 0, 15, .inl (fun _ => 0))), (q3, .inl (G.2.2 0, 24, .inl (fun _ => 0))), (q4, .inl (G.2.2 0, 3, .inl (fun _ => 0)))] hk dX4_init_32 rfl (k0 := 0) rfl ci_4 rfl fl_4_21 rfl rfl (by decide +kernel) rfl rfl rfl rfl ?_
  refine vn_aload_n (i := 0) 36 hk dX4_init_35 rfl rfl rfl ?_
  refine vn_bipush 38 hk dX4_init_36 rfl bp_15 ?_
  refine vn_newa (t := 0) (a0 := (15, .inl (fun _ => 0))) 40 (fun q5 => [(h, .inr (4, [.int 0, .int 0, .ref q1, .ref q2, .ref q3, .ref q4, .null])), (q1, .inl (G.2.2 0, 15, .inl (fun _ => 0))), (q2, .inl (G.2.2 0, 15, .inl (fun _ => 0))), (q3, .inl (G.2.2 0, 24, .inl (fun _ => 0))), (q4, .inl (G.2.2 0, 3, .inl (fun _ => 0))), (q5, .inl (G.2.2 0, 15, .inl (fun _ => 0)))]) hk dX4_init_38 rfl rfl ac_int rfl (fun _ _ h9 => h9) (fun _ => rfl) (by decide +kernel) (by decide +kernel) rfl rfl rfl (fun _ => rfl) (fun q5 => ?_)
  refine vn_cs (nc' := 5) (ns' := 72) rfl rfl ?_
  refine vn_putR 43 [(h, .inr (4, [.int 0, .int 0, .ref q1, .ref q2, .ref q3, .ref q4, .ref q5])), (q1, .inl (G.2.2 0, 15, .inl (fun _ => 0))), (q2, .inl (G.2.2 0, 15, .inl (fun _ => 0))), (q3, .inl (G.2.2 0, 24, .inl (fun _ => 0))), (q4, .inl (G.2.2 0, 3, .inl (fun _ => 0))), (q5, .inl (G.2.2 0, 15, .inl (fun _ => 0)))] hk dX4_init_40 rfl (k0 := 0) rfl ci_4 rfl fl_4_24 rfl rfl (by decide +kernel) rfl rfl rfl rfl ?_
  exact hret (q1, q2, q3, q4, q5) _ _ dX4_init_43

theorem k_0 (G : GT) (h : Nat) : CtN G yX0_init cX0_init 1 1 3 90 [.ref h] [(h, .inr (0, [.null, .null, .null, .int 0, .int 0]))] (fun (u : Nat × Nat × Nat) => match u with | (q1, q2, q3) => [(h, .inr (0, [.ref q1, .ref q2, .ref q3, .int 0, .int 0])), (q1, .inl (G.2.2 0, 30, .inl (fun _ => 0))), (q2, .inl (G.2.2 0, 30, .inl (fun _ => 0))), (q3, .inl (G.2.2 0, 30, .inl (fun _ => 0)))]) := by
  refine ctN (L0 := [some (.ref h)]) (by decide +kernel) (fun h9 => rfl) rfl rfl (fun κ hk hret => ?_)
  have hk : KN G κ cX0_init RX0 1 3 90 := hk
  refine vn_aload_n (i := 0) 1 hk dX0_init_0 rfl rfl rfl ?_
  refine vn_obj 4 hk dX0_init_1 rfl ml_0_1 rfl rfl rfl rfl ?_
  refine vn_aload_n (i := 0) 5 hk dX0_init_4 rfl rfl rfl ?_
  refine vn_bipush 7 hk dX0_init_5 rfl bp_30 ?_
  refine vn_newa (t := 0) (a0 := (30, .inl (fun _ => 0))) 9 (fun q1 => [(h, .inr (0, [.null, .null, .null, .int 0, .int 0])), (q1, .inl (G.2.2 0, 30, .inl (fun _ => 0)))]) hk dX0_init_7 rfl rfl ac_int rfl (fun _ _ h9 => h9) (fun _ => rfl) (by decide +kernel) (by decide +kernel) rfl rfl rfl (fun _ => rfl) (fun q1 => ?_)
  refine vn_cs (nc' := 1) (ns' := 30) rfl rfl ?_
  refine vn_putR 12 [(h, .inr (0, [.ref q1, .null, .null, .int 0, .int 0])), (q1, .inl (G.2.2 0, 30, .inl (fun _ => 0)))] hk dX0_init_9 rfl (k0 := 0) rfl ci_0 rfl fl_0_9 rfl rfl (by decide +kernel) rfl rfl rfl rfl ?_
  refine vn_aload_n (i := 0) 13 hk dX0_init_12 rfl rfl rfl ?_
  refine vn_bipush 15 hk dX0_init_13 rfl bp_30 ?_
  refine vn_newa (t := 0) (a0 := (30, .inl (fun _ => 0))) 17 (fun q2 => [(h, .inr (0, [.ref q1, .null, .null, .int 0, .int 0])), (q1, .inl (G.2.2 0, 30, .inl (fun _ => 0))), (q2, .inl (G.2.2 0, 30, .inl (fun _ => 0)))]) hk dX0_init_15 rfl rfl ac_int rfl (fun _ _ h9 => h9) (fun _ => rfl) (by decide +kernel) (by decide +kernel) rfl rfl rfl (fun _ => rfl) (fun q2 => ?_)
  refine vn_cs (nc' := 2) (ns' := 60) rfl rfl ?_
  refine vn_putR 20 [(h, .inr (0, [.ref q1, .ref q2, .null, .int 0, .int 0])), (q1, .inl (G.2.2 0, 30, .inl (fun _ => 0))), (q2, .inl (G.2.2 0, 30, .inl (fun _ => 0)))] hk dX0_init_17 rfl (k0 := 0) rfl ci_0 rfl fl_0_13 rfl rfl (by decide +kernel) rfl rfl rfl rfl ?_
  refine vn_aload_n (i := 0) 21 hk dX0_init_20 rfl rfl rfl ?_
  refine vn_bipush 23 hk dX0_init_21 rfl bp_30 ?_
  refine vn_newa (t := 0) (a0 := (30, .inl (fun _ => 0))) 25 (fun q3 => [(h, .inr (0, [.ref q1, .ref q2, .null, .int 0, .int 0])), (q1, .inl (G.2.2 0, 30, .inl (fun _ => 0))), (q2, .inl (G.2.2 0, 30, .inl (fun _ => 0))), (q3, .inl (G.2.2 0, 30, .inl (fun _ => 0)))]) hk dX0_init_23 rfl rfl ac_int rfl (fun _ _ h9 => h9) (fun _ => rfl) (by decide +kernel) (by decide +kernel) rfl rfl rfl (fun _ => rfl) (fun q3 => ?_)
  refine vn_cs (nc' := 3) (ns' := 90) rfl rfl ?_
  refine vn_putR 28 [(h, .inr (0, [.ref q1, .ref q2, .ref q3, .int 0, .int 0])), (q1, .inl (G.2.2 0, 30, .inl (fun _ => 0))), (q2, .inl (G.2.2 0, 30, .inl (fun _ => 0))), (q3, .inl (G.2.2 0, 30, .inl (fun _ => 0)))] hk dX0_init_25 rfl (k0 := 0) rfl ci_0 rfl fl_0_16 rfl rfl (by decide +kernel) rfl rfl rfl rfl ?_
  exact hret (q1, q2, q3) _ _ dX0_init_28

theorem k_6 (G : GT) (h : Nat) : CtN G yX6_init cX6_init 1 1 2 80 [.ref h] [(h, .inr (6, [.null, .int 0, .int 0, .int 0, .int 0, .int 0, .null, .int 0]))] (fun (u : Nat × Nat) => match u with | (q1, q2) => [(h, .inr (6, [.ref q1, .int 0, .int 0, .int 0, .int 0, .int 0, .ref q2, .int 0])), (q1, .inl (G.2.2 0, 40, .inl (fun _ => 0))), (q2, .inl (G.2.2 0, 40, .inl (fun _ => 0)))]) := by
  refine ctN (L0 := [some (.ref h)]) (by decide +kernel) (fun h9 => rfl) rfl rfl (fun κ hk hret => ?_)
  have hk : KN G κ cX6_init RX6 1 2 80 := hk
  refine vn_aload_n (i := 0) 1 hk dX6_init_0 rfl rfl rfl ?_
  refine vn_obj 4 hk dX6_init_1 rfl ml_6_3 rfl rfl rfl rfl ?_
  refine vn_aload_n (i := 0) 5 hk dX6_init_4 rfl rfl rfl ?_
  refine vn_bipush 7 hk dX6_init_5 rfl bp_40 ?_
  refine vn_newa (t := 0) (a0 := (40, .inl (fun _ => 0))) 9 (fun q1 => [(h, .inr (6, [.null, .int 0, .int 0, .int 0, .int 0, .int 0, .null, .int 0])), (q1, .inl (G.2.2 0, 40, .inl (fun _ => 0)))]) hk dX6_init_7 rfl rfl ac_int rfl (fun _ _ h9 => h9) (fun _ => rfl) (by decide +kernel) (by decide +kernel) rfl rfl rfl (fun _ => rfl) (fun q1 => ?_)
  refine vn_cs (nc' := 1) (ns' := 40) rfl rfl ?_
  refine vn_putR 12 [(h, .inr (6, [.ref q1, .int 0, .int 0, .int 0, .int 0, .int 0, .null, .int 0])), (q1, .inl (G.2.2 0, 40, .inl (fun _ => 0)))] hk dX6_init_9 rfl (k0 := 0) rfl ci_6 rfl fl_6_9 rfl rfl (by decide +kernel) rfl rfl rfl rfl ?_
  refine vn_aload_n (i := 0) 13 hk dX6_init_12 rfl rfl rfl ?_
  refine vn_bipush 15 hk dX6_init_13 rfl bp_40 ?_
  refine vn_newa (t := 0) (a0 := (40, .inl (fun _ => 0))) 17 (fun q2 => [(h, .inr (6, [.ref q1, .int 0, .int 0, .int 0, .int 0, .int 0, .null, .int 0])), (q1, .inl (G.2.2 0, 40, .inl (fun _ => 0))), (q2, .inl (G.2.2 0, 40, .inl (fun _ => 0)))]) hk dX6_init_15 rfl rfl ac_int rfl (fun _ _ h9 => h9) (fun _ => rfl) (by decide +kernel) (by decide +kernel) rfl rfl rfl (fun _ => rfl) (fun q2 => ?_)
  refine vn_cs (nc' := 2) (ns' := 80) rfl rfl ?_
  refine vn_putR 20 [(h, .inr (6, [.ref q1, .int 0, .int 0, .int 0, .int 0, .int 0, .ref q2, .int 0])), (q1, .inl (G.2.2 0, 40, .inl (fun _ => 0))), (q2, .inl (G.2.2 0, 40, .inl (fun _ => 0)))] hk dX6_init_17 rfl (k0 := 0) rfl ci_6 rfl fl_6_15 rfl rfl (by decide +kernel) rfl rfl rfl rfl ?_
  exact hret (q1, q2) _ _ dX6_init_20

theorem k_8 (G : GT) (h : Nat) (p1 : Nat) (p2 : Nat) : CtN G yX8_init cX8_init 3 1 19 688 [.ref h, .ref p1, .ref p2] [(h, .inr (8, [.null, .null, .int 0, .int 0, .int 0, .null, .null, .null]))] (fun (u : Nat × Nat × Nat × (Nat → Nat)) => match u with | (q1, q2, q3, r4) => [(h, .inr (8, [.ref p1, .ref p2, .int 0, .int 0, .int 0, .ref q1, .ref q2, .ref q3])), (q1, .inl (G.2.2 0, 16, .inl (fun _ => 0))), (q2, .inl (G.2.2 0, 16, .inl (fun _ => 0))), (q3, .inl (G.2.2 3, 16, .inr (.inr (.inr (.inr (fun i => if i < 16 then some (r4 i) else none)))))), ((r4 0), .inl (G.2.2 0, 40, .inl (fun _ => 0))), ((r4 1), .inl (G.2.2 0, 40, .inl (fun _ => 0))), ((r4 2), .inl (G.2.2 0, 40, .inl (fun _ => 0))), ((r4 3), .inl (G.2.2 0, 40, .inl (fun _ => 0))), ((r4 4), .inl (G.2.2 0, 40, .inl (fun _ => 0))), ((r4 5), .inl (G.2.2 0, 40, .inl (fun _ => 0))), ((r4 6), .inl (G.2.2 0, 40, .inl (fun _ => 0))), ((r4 7), .inl (G.2.2 0, 40, .inl (fun _ => 0))), ((r4 8), .inl (G.2.2 0, 40, .inl (fun _ => 0))), ((r4 9), .inl (G.2.2 0, 40, .inl (fun _ => 0))), ((r4 10), .inl (G.2.2 0, 40, .inl (fun _ => 0))), ((r4 11), .inl (G.2.2 0, 40, .inl (fun _ => 0))), ((r4 12), .inl (G.2.2 0, 40, .inl (fun _ => 0))), ((r4 13), .inl (G.2.2 0, 40, .inl (fun _ => 0))), ((r4 14), .inl (G.2.2 0, 40, .inl (fun _ => 0))), ((r4 15), .inl (G.2.2 0, 40, .inl (fun _ => 0)))]) := by
  refine ctN (L0 := [some (.ref h), some (.ref p1), some (.ref p2)]) (by decide +kernel) (fun h9 => rfl) rfl rfl (fun κ hk hret => ?_)
  have hk : KN G κ cX8_init RX8 1 19 688 := hk
  refine vn_aload_n (i := 0) 1 hk dX8_init_0 rfl rfl rfl ?_
  refine vn_obj 4 hk dX8_init_1 rfl ml_8_3 rfl rfl rfl rfl ?_
  refine vn_aload_n (i := 0) 5 hk dX8_init_4 rfl rfl rfl ?_
  refine vn_bipush 7 hk dX8_init_5 rfl bp_16 ?_
  refine vn_newa (t := 0) (a0 := (16, .inl (fun _ => 0))) 9 (fun q1 => [(h, .inr (8, [.null, .null, .int 0, .int 0, .int 0, .null, .null, .null])), (q1, .inl (G.2.2 0, 16, .inl (fun _ => 0)))]) hk dX8_init_7 rfl rfl ac_int rfl (fun _ _ h9 => h9) (fun _ => rfl) (by decide +kernel) (by decide +kernel) rfl rfl rfl (fun _ => rfl) (fun q1 => ?_)
  refine vn_cs (nc' := 1) (ns' := 16) rfl rfl ?_
  refine vn_putR 12 [(h, .inr (8, [.null, .null, .int 0, .int 0, .int 0, .ref q1, .null, .null])), (q1, .inl (G.2.2 0, 16, .inl (fun _ => 0)))] hk dX8_init_9 rfl (k0 := 0) rfl ci_8 rfl fl_8_9 rfl rfl (by decide +kernel) rfl rfl rfl rfl ?_
  refine vn_aload_n (i := 0) 13 hk dX8_init_12 rfl rfl rfl ?_
  refine vn_bipush 15 hk dX8_init_13 rfl bp_16 ?_
  refine vn_newa (t := 0) (a0 := (16, .inl (fun _ => 0))) 17 (fun q2 => [(h, .inr (8, [.null, .null, .int 0, .int 0, .int 0, .ref q1, .null, .null])), (q1, .inl (G.2.2 0, 16, .inl (fun _ => 0))), (q2, .inl (G.2.2 0, 16, .inl (fun _ => 0)))]) hk dX8_init_15 rfl rfl ac_int rfl (fun _ _ h9 => h9) (fun _ => rfl) (by decide +kernel) (by decide +kernel) rfl rfl rfl (fun _ => rfl) (fun q2 => ?_)
  refine vn_cs (nc' := 2) (ns' := 32) rfl rfl ?_
  refine vn_putR 20 [(h, .inr (8, [.null, .null, .int 0, .int 0, .int 0, .ref q1, .ref q2, .null])), (q1, .inl (G.2.2 0, 16, .inl (fun _ => 0))), (q2, .inl (G.2.2 0, 16, .inl (fun _ => 0)))] hk dX8_init_17 rfl (k0 := 0) rfl ci_8 rfl fl_8_15 rfl rfl (by decide +kernel) rfl rfl rfl rfl ?_
  refine vn_aload_n (i := 0) 21 hk dX8_init_20 rfl rfl rfl ?_
  refine vn_bipush 23 hk dX8_init_21 rfl bp_16 ?_
  refine vn_bipush 25 hk dX8_init_23 rfl bp_40 ?_
  refine vn_mna 29 hk dX8_init_25 rfl cl_8_18 (by decide +kernel) (by decide +kernel) (N := 16) (by decide +kernel) (K := 40) (by decide +kernel) rfl rfl rfl rfl (fun q3 r4 => ?_)
  refine vn_eq (ws' := [(h, .inr (8, [.null, .null, .int 0, .int 0, .int 0, .ref q1, .ref q2, .null])), (q1, .inl (G.2.2 0, 16, .inl (fun _ => 0))), (q2, .inl (G.2.2 0, 16, .inl (fun _ => 0))), (q3, .inl (G.2.2 3, 16, .inr (.inr (.inr (.inr (fun i => if i < 16 then some (r4 i) else none)))))), ((r4 0), .inl (G.2.2 0, 40, .inl (fun _ => 0))), ((r4 1), .inl (G.2.2 0, 40, .inl (fun _ => 0))), ((r4 2), .inl (G.2.2 0, 40, .inl (fun _ => 0))), ((r4 3), .inl (G.2.2 0, 40, .inl (fun _ => 0))), ((r4 4), .inl (G.2.2 0, 40, .inl (fun _ => 0))), ((r4 5), .inl (G.2.2 0, 40, .inl (fun _ => 0))), ((r4 6), .inl (G.2.2 0, 40, .inl (fun _ => 0))), ((r4 7), .inl (G.2.2 0, 40, .inl (fun _ => 0))), ((r4 8), .inl (G.2.2 0, 40, .inl (fun _ => 0))), ((r4 9), .inl (G.2.2 0, 40, .inl (fun _ => 0))), ((r4 10), .inl (G.2.2 0, 40, .inl (fun _ => 0))), ((r4 11), .inl (G.2.2 0, 40, .inl (fun _ => 0))), ((r4 12), .inl (G.2.2 0, 40, .inl (fun _ => 0))), ((r4 13), .inl (G.2.2 0, 40, .inl (fun _ => 0))), ((r4 14), .inl (G.2.2 0, 40, .inl (fun _ => 0))), ((r4 15), .inl (G.2.2 0, 40, .inl (fun _ => 0)))]) rfl ?_
  refine vn_cs (nc' := 19) (ns' := 688) rfl rfl ?_
  refine vn_putR 32 [(h, .inr (8, [.null, .null, .int 0, .int 0, .int 0, .ref q1, .ref q2, .ref q3])), (q1, .inl (G.2.2 0, 16, .inl (fun _ => 0))), (q2, .inl (G.2.2 0, 16, .inl (fun _ => 0))), (q3, .inl (G.2.2 3, 16, .inr (.inr (.inr (.inr (fun i => if i < 16 then some (r4 i) else none)))))), ((r4 0), .inl (G.2.2 0, 40, .inl (fun _ => 0))), ((r4 1), .inl (G.2.2 0, 40, .inl (fun _ => 0))), ((r4 2), .inl (G.2.2 0, 40, .inl (fun _ => 0))), ((r4 3), .inl (G.2.2 0, 40, .inl (fun _ => 0))), ((r4 4), .inl (G.2.2 0, 40, .inl (fun _ => 0))), ((r4 5), .inl (G.2.2 0, 40, .inl (fun _ => 0))), ((r4 6), .inl (G.2.2 0, 40, .inl (fun _ => 0))), ((r4 7), .inl (G.2.2 0, 40, .inl (fun _ => 0))), ((r4 8), .inl (G.2.2 0, 40, .inl (fun _ => 0))), ((r4 9), .inl (G.2.2 0, 40, .inl (fun _ => 0))), ((r4 10), .inl (G.2.2 0, 40, .inl (fun _ => 0))), ((r4 11), .inl (G.2.2 0, 40, .inl (fun _ => 0))), ((r4 12), .inl (G.2.2 0, 40, .inl (fun _ => 0))), ((r4 13), .inl (G.2.2 0, 40, .inl (fun _ => 0))), ((r4 14), .inl (G.2.2 0, 40, .inl (fun _ => 0))), ((r4 15), .inl (G.2.2 0, 40, .inl (fun _ => 0)))] hk dX8_init_29 rfl (k0 := 0) rfl ci_8 rfl fl_8_20 rfl rfl (by decide +kernel) rfl rfl rfl rfl ?_
  refine vn_aload_n (i := 0) 33 hk dX8_init_32 rfl rfl rfl ?_
  refine vn_aload_n (i := 1) 34 hk dX8_init_33 rfl rfl rfl ?_
  refine vn_putR 37 [(h, .inr (8, [.ref p1, .null, .int 0, .int 0, .int 0, .ref q1, .ref q2, .ref q3])), (q1, .inl (G.2.2 0, 16, .inl (fun _ => 0))), (q2, .inl (G.2.2 0, 16, .inl (fun _ => 0))), (q3, .inl (G.2.2 3, 16, .inr (.inr (.inr (.inr (fun i => if i < 16 then some (r4 i) else none)))))), ((r4 0), .inl (G.2.2 0, 40, .inl (fun _ => 0))), ((r4 1), .inl (G.2.2 0, 40, .inl (fun _ => 0))), ((r4 2), .inl (G.2.2 0, 40, .inl (fun _ => 0))), ((r4 3), .inl (G.2.2 0, 40, .inl (fun _ => 0))), ((r4 4), .inl (G.2.2 0, 40, .inl (fun _ => 0))), ((r4 5), .inl (G.2.2 0, 40, .inl (fun _ => 0))), ((r4 6), .inl (G.2.2 0, 40, .inl (fun _ => 0))), ((r4 7), .inl (G.2.2 0, 40, .inl (fun _ => 0))), ((r4 8), .inl (G.2.2 0, 40, .inl (fun _ => 0))), ((r4 9), .inl (G.2.2 0, 40, .inl (fun _ => 0))), ((r4 10), .inl (G.2.2 0, 40, .inl (fun _ => 0))), ((r4 11), .inl (G.2.2 0, 40, .inl (fun _ => 0))), ((r4 12), .inl (G.2.2 0, 40, .inl (fun _ => 0))), ((r4 13), .inl (G.2.2 0, 40, .inl (fun _ => 0))), ((r4 14), .inl (G.2.2 0, 40, .inl (fun _ => 0))), ((r4 15), .inl (G.2.2 0, 40, .inl (fun _ => 0)))] hk dX8_init_34 rfl (k0 := 0) rfl ci_8 rfl fl_8_23 rfl rfl (by decide +kernel) rfl rfl rfl rfl ?_
  refine vn_aload_n (i := 0) 38 hk dX8_init_37 rfl rfl rfl ?_
  refine vn_aload_n (i := 2) 39 hk dX8_init_38 rfl rfl rfl ?_
  refine vn_putR 42 [(h, .inr (8, [.ref p1, .ref p2, .int 0, .int 0, .int 0, .ref q1, .ref q2, .ref q3])), (q1, .inl (G.2.2 0, 16, .inl (fun _ => 0))), (q2, .inl (G.2.2 0, 16, .inl (fun _ => 0))), (q3, .inl (G.2.2 3, 16, .inr (.inr (.inr (.inr (fun i => if i < 16 then some (r4 i) else none)))))), ((r4 0), .inl (G.2.2 0, 40, .inl (fun _ => 0))), ((r4 1), .inl (G.2.2 0, 40, .inl (fun _ => 0))), ((r4 2), .inl (G.2.2 0, 40, .inl (fun _ => 0))), ((r4 3), .inl (G.2.2 0, 40, .inl (fun _ => 0))), ((r4 4), .inl (G.2.2 0, 40, .inl (fun _ => 0))), ((r4 5), .inl (G.2.2 0, 40, .inl (fun _ => 0))), ((r4 6), .inl (G.2.2 0, 40, .inl (fun _ => 0))), ((r4 7), .inl (G.2.2 0, 40, .inl (fun _ => 0))), ((r4 8), .inl (G.2.2 0, 40, .inl (fun _ => 0))), ((r4 9), .inl (G.2.2 0, 40, .inl (fun _ => 0))), ((r4 10), .inl (G.2.2 0, 40, .inl (fun _ => 0))), ((r4 11), .inl (G.2.2 0, 40, .inl (fun _ => 0))), ((r4 12), .inl (G.2.2 0, 40, .inl (fun _ => 0))), ((r4 13), .inl (G.2.2 0, 40, .inl (fun _ => 0))), ((r4 14), .inl (G.2.2 0, 40, .inl (fun _ => 0))), ((r4 15), .inl (G.2.2 0, 40, .inl (fun _ => 0)))] hk dX8_init_39 rfl (k0 := 0) rfl ci_8 rfl fl_8_27 rfl rfl (by decide +kernel) rfl rfl rfl rfl ?_
  exact hret (q1, q2, q3, r4) _ _ dX8_init_42

theorem k_10 (G : GT) (h : Nat) (p1 : Nat) : CtN G yX10_init cX10_init 2 1 1 256 [.ref h, .ref p1] [(h, .inr (10, [.null, .null]))] (fun (u : Nat) => match u with | q1 => [(h, .inr (10, [.ref p1, .ref q1])), (q1, .inl (G.2.2 1, 256, .inl (fun _ => 0)))]) := by
  refine ctN (L0 := [some (.ref h), some (.ref p1)]) (by decide +kernel) (fun h9 => rfl) rfl rfl (fun κ hk hret => ?_)
  have hk : KN G κ cX10_init RX10 1 1 256 := hk
  refine vn_aload_n (i := 0) 1 hk dX10_init_0 rfl rfl rfl ?_
  refine vn_obj 4 hk dX10_init_1 rfl ml_10_3 rfl rfl rfl rfl ?_
  refine vn_aload_n (i := 0) 5 hk dX10_init_4 rfl rfl rfl ?_
  refine vn_sipush 8 hk dX10_init_5 rfl sp_256 ?_
  refine vn_newa (t := 1) (a0 := (256, .inl (fun _ => 0))) 10 (fun q1 => [(h, .inr (10, [.null, .null])), (q1, .inl (G.2.2 1, 256, .inl (fun _ => 0)))]) hk dX10_init_8 rfl rfl ac_boolean rfl (fun _ _ h9 => h9) (fun _ => rfl) (by decide +kernel) (by decide +kernel) rfl rfl rfl (fun _ => rfl) (fun q1 => ?_)
  refine vn_cs (nc' := 1) (ns' := 256) rfl rfl ?_
  refine vn_putR 13 [(h, .inr (10, [.null, .ref q1])), (q1, .inl (G.2.2 1, 256, .inl (fun _ => 0)))] hk dX10_init_10 rfl (k0 := 0) rfl ci_10 rfl fl_10_9 rfl rfl (by decide +kernel) rfl rfl rfl rfl ?_
  refine vn_aload_n (i := 0) 14 hk dX10_init_13 rfl rfl rfl ?_
  refine vn_aload_n (i := 1) 15 hk dX10_init_14 rfl rfl rfl ?_
  refine vn_putR 18 [(h, .inr (10, [.ref p1, .ref q1])), (q1, .inl (G.2.2 1, 256, .inl (fun _ => 0)))] hk dX10_init_15 rfl (k0 := 0) rfl ci_10 rfl fl_10_15 rfl rfl (by decide +kernel) rfl rfl rfl rfl ?_
  exact hret q1 _ _ dX10_init_18

theorem k_7 (G : GT) (h : Nat) (p1 : Nat) : CtN G yX7_init cX7_init 2 1 8 90 [.ref h, .ref p1] [(h, .inr (7, [.null, .null, .null, .null, .null, .null, .int 0, .null, .null, .null]))] (fun (u : Nat × Nat × Nat × Nat × Nat × Nat × Nat × Nat) => match u with | (q1, q2, q3, q4, q5, q6, q7, q8) => [(h, .inr (7, [.ref p1, .ref q1, .ref q2, .ref q3, .ref q4, .ref q5, .int 0, .ref q6, .ref q7, .ref q8])), (q1, .inl (G.2.2 0, 5, .inl (fun _ => 0))), (q2, .inl (G.2.2 0, 5, .inl (fun _ => 0))), (q3, .inl (G.2.2 2, 25, .inr (.inl (fun _ => 0)))), (q4, .inl (G.2.2 2, 5, .inr (.inl (fun _ => 0)))), (q5, .inl (G.2.2 2, 32, .inr (.inl (fun _ => 0)))), (q6, .inl (G.2.2 0, 6, .inl (fun _ => 0))), (q7, .inl (G.2.2 0, 6, .inl (fun _ => 0))), (q8, .inl (G.2.2 0, 6, .inl (fun _ => 0)))]) := by
  refine ctN (L0 := [some (.ref h), some (.ref p1)]) (by decide +kernel) (fun h9 => rfl) rfl rfl (fun κ hk hret => ?_)
  have hk : KN G κ cX7_init RX7 1 8 90 := hk
  refine vn_aload_n (i := 0) 1 hk dX7_init_0 rfl rfl rfl ?_
  refine vn_obj 4 hk dX7_init_1 rfl ml_7_3 rfl rfl rfl rfl ?_
  refine vn_aload_n (i := 0) 5 hk dX7_init_4 rfl rfl rfl ?_
  refine vn_iconst 6 hk dX7_init_5 rfl ic_5 ?_
  refine vn_newa (t := 0) (a0 := (5, .inl (fun _ => 0))) 8 (fun q1 => [(h, .inr (7, [.null, .null, .null, .null, .null, .null, .int 0, .null, .null, .null])), (q1, .inl (G.2.2 0, 5, .inl (fun _ => 0)))]) hk dX7_init_6 rfl rfl ac_int rfl (fun _ _ h9 => h9) (fun _ => rfl) (by decide +kernel) (by decide +kernel) rfl rfl rfl (fun _ => rfl) (fun q1 => ?_)
  refine vn_cs (nc' := 1) (ns' := 5) rfl rfl ?_
  refine vn_putR 11 [(h, .inr (7, [.null, .ref q1, .null, .null, .null, .null, .int 0, .null, .null, .null])), (q1, .inl (G.2.2 0, 5, .inl (fun _ => 0)))] hk dX7_init_8 rfl (k0 := 0) rfl ci_7 rfl fl_7_9 rfl rfl (by decide +kernel) rfl rfl rfl rfl ?_
  refine vn_aload_n (i := 0) 12 hk dX7_init_11 rfl rfl rfl ?_
  refine vn_iconst 13 hk dX7_init_12 rfl ic_5 ?_
  refine vn_newa (t := 0) (a0 := (5, .inl (fun _ => 0))) 15 (fun q2 => [(h, .inr (7, [.null, .ref q1, .null, .null, .null, .null, .int 0, .null, .null, .null])), (q1, .inl (G.2.2 0, 5, .inl (fun _ => 0))), (q2, .inl (G.2.2 0, 5, .inl (fun _ => 0)))]) hk dX7_init_13 rfl rfl ac_int rfl (fun _ _ h9 => h9) (fun _ => rfl) (by decide +kernel) (by decide +kernel) rfl rfl rfl (fun _ => rfl) (fun q2 => ?_)
  refine vn_cs (nc' := 2) (ns' := 10) rfl rfl ?_
  refine vn_putR 18 [(h, .inr (7, [.null, .ref q1, .ref q2, .null, .null, .null, .int 0, .null, .null, .null])), (q1, .inl (G.2.2 0, 5, .inl (fun _ => 0))), (q2, .inl (G.2.2 0, 5, .inl (fun _ => 0)))] hk dX7_init_15 rfl (k0 := 0) rfl ci_7 rfl fl_7_15 rfl rfl (by decide +kernel) rfl rfl rfl rfl ?_
  refine vn_aload_n (i := 0) 19 hk dX7_init_18 rfl rfl rfl ?_
  refine vn_bipush 21 hk dX7_init_19 rfl bp_25 ?_
  refine vn_newa (t := 2) (a0 := (25, .inr (.inl (fun _ => 0)))) 23 (fun q3 => [(h, .inr (7, [.null, .ref q1, .ref q2, .null, .null, .null, .int 0, .null, .null, .null])), (q1, .inl (G.2.2 0, 5, .inl (fun _ => 0))), (q2, .inl (G.2.2 0, 5, .inl (fun _ => 0))), (q3, .inl (G.2.2 2, 25, .inr (.inl (fun _ => 0))))]) hk dX7_init_21 rfl rfl ac_long rfl (fun _ _ h9 => h9) (fun _ => rfl) (by decide +kernel) (by decide +kernel) rfl rfl rfl (fun _ => rfl) (fun q3 => ?_)
  refine vn_cs (nc' := 3) (ns' := 35) rfl rfl ?_
  refine vn_putR 26 [(h, .inr (7, [.null, .ref q1, .ref q2, .ref q3, .null, .null, .int 0, .null, .null, .null])), (q1, .inl (G.2.2 0, 5, .inl (fun _ => 0))), (q2, .inl (G.2.2 0, 5, .inl (fun _ => 0))), (q3, .inl (G.2.2 2, 25, .inr (.inl (fun _ => 0))))] hk dX7_init_23 rfl (k0 := 0) rfl ci_7 rfl fl_7_18 rfl rfl (by decide +kernel) rfl rfl rfl rfl ?_
  refine vn_aload_n (i := 0) 27 hk dX7_init_26 rfl rfl rfl ?_
  refine vn_iconst 28 hk dX7_init_27 rfl ic_5 ?_
  refine vn_newa (t := 2) (a0 := (5, .inr (.inl (fun _ => 0)))) 30 (fun q4 => [(h, .inr (7, [.null, .ref q1, .ref q2, .ref q3, .null, .null, .int 0, .null, .null, .null])), (q1, .inl (G.2.2 0, 5, .inl (fun _ => 0))), (q2, .inl (G.2.2 0, 5, .inl (fun _ => 0))), (q3, .inl (G.2.2 2, 25, .inr (.inl (fun _ => 0)))), (q4, .inl (G.2.2 2, 5, .inr (.inl (fun _ => 0))))]) hk dX7_init_28 rfl rfl ac_long rfl (fun _ _ h9 => h9) (fun _ => rfl) (by decide +kernel) (by decide +kernel) rfl rfl rfl (fun _ => rfl) (fun q4 => ?_)
  refine vn_cs (nc' := 4) (ns' := 40) rfl rfl ?_
  refine vn_putR 33 [(h, .inr (7, [.null, .ref q1, .ref q2, .ref q3, .ref q4, .null, .int 0, .null, .null, .null])), (q1, .inl (G.2.2 0, 5, .inl (fun _ => 0))), (q2, .inl (G.2.2 0, 5, .inl (fun _ => 0))), (q3, .inl (G.2.2 2, 25, .inr (.inl (fun _ => 0)))), (q4, .inl (G.2.2 2, 5, .inr (.inl (fun _ => 0))))] hk dX7_init_30 rfl (k0 := 0) rfl ci_7 rfl fl_7_22 rfl rfl (by decide +kernel) rfl rfl rfl rfl ?_
  refine vn_aload_n (i := 0) 34 hk dX7_init_33 rfl rfl rfl ?_
  refine vn_bipush 36 hk dX7_init_34 rfl bp_32 ?_
  refine vn_newa (t := 2) (a0 := (32, .inr (.inl (fun _ => 0)))) 38 (fun q5 => [(h, .inr (7, [.null, .ref q1, .ref q2, .ref q3, .ref q4, .null, .int 0, .null, .null, .null])), (q1, .inl (G.2.2 0, 5, .inl (fun _ => 0))), (q2, .inl (G.2.2 0, 5, .inl (fun _ => 0))), (q3, .inl (G.2.2 2, 25, .inr (.inl (fun _ => 0)))), (q4, .inl (G.2.2 2, 5, .inr (.inl (fun _ => 0)))), (q5, .inl (G.2.2 2, 32, .inr (.inl (fun _ => 0))))]) hk dX7_init_36 rfl rfl ac_long rfl (fun _ _ h9 => h9) (fun _ => rfl) (by decide +kernel) (by decide +kernel) rfl rfl rfl (fun _ => rfl) (fun q5 => ?_)
  refine vn_cs (nc' := 5) (ns' := 72) rfl rfl ?_
  refine vn_putR 41 [(h, .inr (7, [.null, .ref q1, .ref q2, .ref q3, .ref q4, .ref q5, .int 0, .null, .null, .null])), (q1, .inl (G.2.2 0, 5, .inl (fun _ => 0))), (q2, .inl (G.2.2 0, 5, .inl (fun _ => 0))), (q3, .inl (G.2.2 2, 25, .inr (.inl (fun _ => 0)))), (q4, .inl (G.2.2 2, 5, .inr (.inl (fun _ => 0)))), (q5, .inl (G.2.2 2, 32, .inr (.inl (fun _ => 0))))] hk dX7_init_38 rfl (k0 := 0) rfl ci_7 rfl fl_7_25 rfl rfl (by decide +kernel) rfl rfl rfl rfl ?_
  refine vn_aload_n (i := 0) 42 hk dX7_init_41 rfl rfl rfl ?_
  refine vn_bipush 44 hk dX7_init_42 rfl bp_6 ?_
  refine vn_newa (t := 0) (a0 := (6, .inl (fun _ => 0))) 46 (fun q6 => [(h, .inr (7, [.null, .ref q1, .ref q2, .ref q3, .ref q4, .ref q5, .int 0, .null, .null, .null])), (q1, .inl (G.2.2 0, 5, .inl (fun _ => 0))), (q2, .inl (G.2.2 0, 5, .inl (fun _ => 0))), (q3, .inl (G.2.2 2, 25, .inr (.inl (fun _ => 0)))), (q4, .inl (G.2.2 2, 5, .inr (.inl (fun _ => 0)))), (q5, .inl (G.2.2 2, 32, .inr (.inl (fun _ => 0)))), (q6, .inl (G.2.2 0, 6, .inl (fun _ => 0)))]) hk dX7_init_44 rfl rfl ac_int rfl (fun _ _ h9 => h9) (fun _ => rfl) (by decide +kernel) (by decide +kernel) rfl rfl rfl (fun _ => rfl) (fun q6 => ?_)
  refine vn_cs (nc' := 6) (ns' := 78) rfl rfl ?_
  refine vn_putR 49 [(h, .inr (7, [.null, .ref q1, .ref q2, .ref q3, .ref q4, .ref q5, .int 0, .ref q6, .null, .null])), (q1, .inl (G.2.2 0, 5, .inl (fun _ => 0))), (q2, .inl (G.2.2 0, 5, .inl (fun _ => 0))), (q3, .inl (G.2.2 2, 25, .inr (.inl (fun _ => 0)))), (q4, .inl (G.2.2 2, 5, .inr (.inl (fun _ => 0)))), (q5, .inl (G.2.2 2, 32, .inr (.inl (fun _ => 0)))), (q6, .inl (G.2.2 0, 6, .inl (fun _ => 0)))] hk dX7_init_46 rfl (k0 := 0) rfl ci_7 rfl fl_7_28 rfl rfl (by decide +kernel) rfl rfl rfl rfl ?_
  refine vn_aload_n (i := 0) 50 hk dX7_init_49 rfl rfl rfl ?_
  refine vn_bipush 52 hk dX7_init_50 rfl bp_6 ?_
  refine vn_newa (t := 0) (a0 := (6, .inl (fun _ => 0))) 54 (fun q7 => [(h, .inr (7, [.null, .ref q1, .ref q2, .ref q3, .ref q4, .ref q5, .int 0, .ref q6, .null, .null])), (q1, .inl (G.2.2 0, 5, .inl (fun _ => 0))), (q2, .inl (G.2.2 0, 5, .inl (fun _ => 0))), (q3, .inl (G.2.2 2, 25, .inr (.inl (fun _ => 0)))), (q4, .inl (G.2.2 2, 5, .inr (.inl (fun _ => 0)))), (q5, .inl (G.2.2 2, 32, .inr (.inl (fun _ => 0)))), (q6, .inl (G.2.2 0, 6, .inl (fun _ => 0))), (q7, .inl (G.2.2 0, 6, .inl (fun _ => 0)))]) hk dX7_init_52 rfl rfl ac_int rfl (fun _ _ h9 => h9) (fun _ => rfl) (by decide +kernel) (by decide +kernel) rfl rfl rfl (fun _ => rfl) (fun q7 => ?_)
  refine vn_cs (nc' := 7) (ns' := 84) rfl rfl ?_
  refine vn_putR 57 [(h, .inr (7, [.null, .ref q1, .ref q2, .ref q3, .ref q4, .ref q5, .int 0, .ref q6, .ref q7, .null])), (q1, .inl (G.2.2 0, 5, .inl (fun _ => 0))), (q2, .inl (G.2.2 0, 5, .inl (fun _ => 0))), (q3, .inl (G.2.2 2, 25, .inr (.inl (fun _ => 0)))), (q4, .inl (G.2.2 2, 5, .inr (.inl (fun _ => 0)))), (q5, .inl (G.2.2 2, 32, .inr (.inl (fun _ => 0)))), (q6, .inl (G.2.2 0, 6, .inl (fun _ => 0))), (q7, .inl (G.2.2 0, 6, .inl (fun _ => 0)))] hk dX7_init_54 rfl (k0 := 0) rfl ci_7 rfl fl_7_31 rfl rfl (by decide +kernel) rfl rfl rfl rfl ?_
  refine vn_aload_n (i := 0) 58 hk dX7_init_57 rfl rfl rfl ?_
  refine vn_bipush 60 hk dX7_init_58 rfl bp_6 ?_
  refine vn_newa (t := 0) (a0 := (6, .inl (fun _ => 0))) 62 (fun q8 => [(h, .inr (7, [.null, .ref q1, .ref q2, .ref q3, .ref q4, .ref q5, .int 0, .ref q6, .ref q7, .null])), (q1, .inl (G.2.2 0, 5, .inl (fun _ => 0))), (q2, .inl (G.2.2 0, 5, .inl (fun _ => 0))), (q3, .inl (G.2.2 2, 25, .inr (.inl (fun _ => 0)))), (q4, .inl (G.2.2 2, 5, .inr (.inl (fun _ => 0)))), (q5, .inl (G.2.2 2, 32, .inr (.inl (fun _ => 0)))), (q6, .inl (G.2.2 0, 6, .inl (fun _ => 0))), (q7, .inl (G.2.2 0, 6, .inl (fun _ => 0))), (q8, .inl (G.2.2 0, 6, .inl (fun _ => 0)))]) hk dX7_init_60 rfl rfl ac_int rfl (fun _ _ h9 => h9) (fun _ => rfl) (by decide +kernel) (by decide +kernel) rfl rfl rfl (fun _ => rfl) (fun q8 => ?_)
  refine vn_cs (nc' := 8) (ns' := 90) rfl rfl ?_
  refine vn_putR 65 [(h, .inr (7, [.null, .ref q1, .ref q2, .ref q3, .ref q4, .ref q5, .int 0, .ref q6, .ref q7, .ref q8])), (q1, .inl (G.2.2 0, 5, .inl (fun _ => 0))), (q2, .inl (G.2.2 0, 5, .inl (fun _ => 0))), (q3, .inl (G.2.2 2, 25, .inr (.inl (fun _ => 0)))), (q4, .inl (G.2.2 2, 5, .inr (.inl (fun _ => 0)))), (q5, .inl (G.2.2 2, 32, .inr (.inl (fun _ => 0)))), (q6, .inl (G.2.2 0, 6, .inl (fun _ => 0))), (q7, .inl (G.2.2 0, 6, .inl (fun _ => 0))), (q8, .inl (G.2.2 0, 6, .inl (fun _ => 0)))] hk dX7_init_62 rfl (k0 := 0) rfl ci_7 rfl fl_7_34 rfl rfl (by decide +kernel) rfl rfl rfl rfl ?_
  refine vn_aload_n (i := 0) 66 hk dX7_init_65 rfl rfl rfl ?_
  refine vn_aload_n (i := 1) 67 hk dX7_init_66 rfl rfl rfl ?_
  refine vn_putR 70 [(h, .inr (7, [.ref p1, .ref q1, .ref q2, .ref q3, .ref q4, .ref q5, .int 0, .ref q6, .ref q7, .ref q8])), (q1, .inl (G.2.2 0, 5, .inl (fun _ => 0))), (q2, .inl (G.2.2 0, 5, .inl (fun _ => 0))), (q3, .inl (G.2.2 2, 25, .inr (.inl (fun _ => 0)))), (q4, .inl (G.2.2 2, 5, .inr (.inl (fun _ => 0)))), (q5, .inl (G.2.2 2, 32, .inr (.inl (fun _ => 0)))), (q6, .inl (G.2.2 0, 6, .inl (fun _ => 0))), (q7, .inl (G.2.2 0, 6, .inl (fun _ => 0))), (q8, .inl (G.2.2 0, 6, .inl (fun _ => 0)))] hk dX7_init_67 rfl (k0 := 0) rfl ci_7 rfl fl_7_37 rfl rfl (by decide +kernel) rfl rfl rfl rfl ?_
  exact hret (q1, q2, q3, q4, q5, q6, q7, q8) _ _ dX7_init_70

theorem k_2 (G : GT) (h : Nat) : CtN G yX2_init cX2_init 1 1 3 75 [.ref h] [(h, .inr (2, [.null, .null, .null, .int 0, .int 0]))] (fun (u : Nat × Nat × Nat) => match u with | (q1, q2, q3) => [(h, .inr (2, [.ref q1, .ref q2, .ref q3, .int 0, .int 0])), (q1, .inl (G.2.2 1, 25, .inl (fun _ => 0))), (q2, .inl (G.2.2 0, 25, .inl (fun _ => 0))), (q3, .inl (G.2.2 0, 25, .inl (fun _ => 0)))]) := by
  refine ctN (L0 := [some (.ref h)]) (by decide +kernel) (fun h9 => rfl) rfl rfl (fun κ hk hret => ?_)
  have hk : KN G κ cX2_init RX2 1 3 75 := hk
  refine vn_aload_n (i := 0) 1 hk dX2_init_0 rfl rfl rfl ?_
  refine vn_obj 4 hk dX2_init_1 rfl ml_2_3 rfl rfl rfl rfl ?_
  refine vn_aload_n (i := 0) 5 hk dX2_init_4 rfl rfl rfl ?_
  refine vn_bipush 7 hk dX2_init_5 rfl bp_25 ?_
  refine vn_newa (t := 1) (a0 := (25, .inl (fun _ => 0))) 9 (fun q1 => [(h, .inr (2, [.null, .null, .null, .int 0, .int 0])), (q1, .inl (G.2.2 1, 25, .inl (fun _ => 0)))]) hk dX2_init_7 rfl rfl ac_boolean rfl (fun _ _ h9 => h9) (fun _ => rfl) (by decide +kernel) (by decide +kernel) rfl rfl rfl (fun _ => rfl) (fun q1 => ?_)
  refine vn_cs (nc' := 1) (ns' := 25) rfl rfl ?_
  refine vn_putR 12 [(h, .inr (2, [.ref q1, .null, .null, .int 0, .int 0])), (q1, .inl (G.2.2 1, 25, .inl (fun _ => 0)))] hk dX2_init_9 rfl (k0 := 0) rfl ci_2 rfl fl_2_9 rfl rfl (by decide +kernel) rfl rfl rfl rfl ?_
  refine vn_aload_n (i := 0) 13 hk dX2_init_12 rfl rfl rfl ?_
  refine vn_bipush 15 hk dX2_init_13 rfl bp_25 ?_
  refine vn_newa (t := 0) (a0 := (25, .inl (fun _ => 0))) 17 (fun q2 => [(h, .inr (2, [.ref q1, .null, .null, .int 0, .int 0])), (q1, .inl (G.2.2 1, 25, .inl (fun _ => 0))), (q2, .inl (G.2.2 0, 25, .inl (fun _ => 0)))]) hk dX2_init_15 rfl rfl ac_int rfl (fun _ _ h9 => h9) (fun _ => rfl) (by decide +kernel) (by decide +kernel) rfl rfl rfl (fun _ => rfl) (fun q2 => ?_)
  refine vn_cs (nc' := 2) (ns' := 50) rfl rfl ?_
  refine vn_putR 20 [(h, .inr (2, [.ref q1, .ref q2, .null, .int 0, .int 0])), (q1, .inl (G.2.2 1, 25, .inl (fun _ => 0))), (q2, .inl (G.2.2 0, 25, .inl (fun _ => 0)))] hk dX2_init_17 rfl (k0 := 0) rfl ci_2 rfl fl_2_13 rfl rfl (by decide +kernel) rfl rfl rfl rfl ?_
  refine vn_aload_n (i := 0) 21 hk dX2_init_20 rfl rfl rfl ?_
  refine vn_bipush 23 hk dX2_init_21 rfl bp_25 ?_
  refine vn_newa (t := 0) (a0 := (25, .inl (fun _ => 0))) 25 (fun q3 => [(h, .inr (2, [.ref q1, .ref q2, .null, .int 0, .int 0])), (q1, .inl (G.2.2 1, 25, .inl (fun _ => 0))), (q2, .inl (G.2.2 0, 25, .inl (fun _ => 0))), (q3, .inl (G.2.2 0, 25, .inl (fun _ => 0)))]) hk dX2_init_23 rfl rfl ac_int rfl (fun _ _ h9 => h9) (fun _ => rfl) (by decide +kernel) (by decide +kernel) rfl rfl rfl (fun _ => rfl) (fun q3 => ?_)
  refine vn_cs (nc' := 3) (ns' := 75) rfl rfl ?_
  refine vn_putR 28 [(h, .inr (2, [.ref q1, .ref q2, .ref q3, .int 0, .int 0])), (q1, .inl (G.2.2 1, 25, .inl (fun _ => 0))), (q2, .inl (G.2.2 0, 25, .inl (fun _ => 0))), (q3, .inl (G.2.2 0, 25, .inl (fun _ => 0)))] hk dX2_init_25 rfl (k0 := 0) rfl ci_2 rfl fl_2_17 rfl rfl (by decide +kernel) rfl rfl rfl rfl ?_
  exact hret (q1, q2, q3) _ _ dX2_init_28

theorem k_3 (G : GT) (h : Nat) : CtN G yX3_init cX3_init 1 2 4 18 [.ref h] [(h, .inr (3, [.null, .null, .null, .null, .int 0, .int 0]))] (fun (u : Nat × Nat × Nat × Nat) => match u with | (q1, q2, q3, q4) => [(h, .inr (3, [.ref q1, .ref q2, .ref q3, .ref q4, .int 0, .int 0])), (q1, .inl (G.2.2 0, 9, .inl (upd (upd (upd (upd (upd (upd (upd (upd (upd (fun _ => 0) 0 (1 : Int32)) 1 (1 : Int32)) 2 (1 : Int32)) 3 (1 : Int32)) 4 (1 : Int32)) 5 (1 : Int32)) 6 (1 : Int32)) 7 (1 : Int32)) 8 (1 : Int32)))), (q2, .inl (G.2.2 0, 3, .inl (upd (upd (upd (fun _ => 0) 0 (-1 : Int32)) 1 (-1 : Int32)) 2 (-1 : Int32)))), (q3, .inl (G.2.2 0, 3, .inl (fun _ => 0))), (q4, .inl (G.2.2 0, 3, .inl (fun _ => 0)))]) := by
  refine ctN (L0 := [some (.ref h)]) (by decide +kernel) (fun h9 => rfl) rfl rfl (fun κ hk hret => ?_)
  have hk : KN G κ cX3_init RX3 2 4 18 := hk
  refine vn_aload_n (i := 0) 1 hk dX3_init_0 rfl rfl rfl ?_
  refine vn_obj 4 hk dX3_init_1 rfl ml_3_3 rfl rfl rfl rfl ?_
  refine vn_aload_n (i := 0) 5 hk dX3_init_4 rfl rfl rfl ?_
  refine vn_bipush 7 hk dX3_init_5 rfl bp_9 ?_
  refine vn_newa (t := 0) (a0 := (9, .inl (fun _ => 0))) 9 (fun q1 => [(h, .inr (3, [.null, .null, .null, .null, .int 0, .int 0])), (q1, .inl (G.2.2 0, 9, .inl (fun _ => 0)))]) hk dX3_init_7 rfl rfl ac_int rfl (fun _ _ h9 => h9) (fun _ => rfl) (by decide +kernel) (by decide +kernel) rfl rfl rfl (fun _ => rfl) (fun q1 => ?_)
  refine vn_cs (nc' := 1) (ns' := 9) rfl rfl ?_
  refine vn_putR 12 [(h, .inr (3, [.ref q1, .null, .null, .null, .int 0, .int 0])), (q1, .inl (G.2.2 0, 9, .inl (fun _ => 0)))] hk dX3_init_9 rfl (k0 := 0) rfl ci_3 rfl fl_3_11 rfl rfl (by decide +kernel) rfl rfl rfl rfl ?_
  refine vn_aload_n (i := 0) 13 hk dX3_init_12 rfl rfl rfl ?_
  refine vn_iconst 14 hk dX3_init_13 rfl ic_3 ?_
  refine vn_newa (t := 0) (a0 := (3, .inl (fun _ => 0))) 16 (fun q2 => [(h, .inr (3, [.ref q1, .null, .null, .null, .int 0, .int 0])), (q1, .inl (G.2.2 0, 9, .inl (fun _ => 0))), (q2, .inl (G.2.2 0, 3, .inl (fun _ => 0)))]) hk dX3_init_14 rfl rfl ac_int rfl (fun _ _ h9 => h9) (fun _ => rfl) (by decide +kernel) (by decide +kernel) rfl rfl rfl (fun _ => rfl) (fun q2 => ?_)
  refine vn_cs (nc' := 2) (ns' := 12) rfl rfl ?_
  refine vn_putR 19 [(h, .inr (3, [.ref q1, .ref q2, .null, .null, .int 0, .int 0])), (q1, .inl (G.2.2 0, 9, .inl (fun _ => 0))), (q2, .inl (G.2.2 0, 3, .inl (fun _ => 0)))] hk dX3_init_16 rfl (k0 := 0) rfl ci_3 rfl fl_3_15 rfl rfl (by decide +kernel) rfl rfl rfl rfl ?_
  refine vn_aload_n (i := 0) 20 hk dX3_init_19 rfl rfl rfl ?_
  refine vn_iconst 21 hk dX3_init_20 rfl ic_3 ?_
  refine vn_newa (t := 0) (a0 := (3, .inl (fun _ => 0))) 23 (fun q3 => [(h, .inr (3, [.ref q1, .ref q2, .null, .null, .int 0, .int 0])), (q1, .inl (G.2.2 0, 9, .inl (fun _ => 0))), (q2, .inl (G.2.2 0, 3, .inl (fun _ => 0))), (q3, .inl (G.2.2 0, 3, .inl (fun _ => 0)))]) hk dX3_init_21 rfl rfl ac_int rfl (fun _ _ h9 => h9) (fun _ => rfl) (by decide +kernel) (by decide +kernel) rfl rfl rfl (fun _ => rfl) (fun q3 => ?_)
  refine vn_cs (nc' := 3) (ns' := 15) rfl rfl ?_
  refine vn_putR 26 [(h, .inr (3, [.ref q1, .ref q2, .ref q3, .null, .int 0, .int 0])), (q1, .inl (G.2.2 0, 9, .inl (fun _ => 0))), (q2, .inl (G.2.2 0, 3, .inl (fun _ => 0))), (q3, .inl (G.2.2 0, 3, .inl (fun _ => 0)))] hk dX3_init_23 rfl (k0 := 0) rfl ci_3 rfl fl_3_18 rfl rfl (by decide +kernel) rfl rfl rfl rfl ?_
  refine vn_aload_n (i := 0) 27 hk dX3_init_26 rfl rfl rfl ?_
  refine vn_iconst 28 hk dX3_init_27 rfl ic_3 ?_
  refine vn_newa (t := 0) (a0 := (3, .inl (fun _ => 0))) 30 (fun q4 => [(h, .inr (3, [.ref q1, .ref q2, .ref q3, .null, .int 0, .int 0])), (q1, .inl (G.2.2 0, 9, .inl (fun _ => 0))), (q2, .inl (G.2.2 0, 3, .inl (fun _ => 0))), (q3, .inl (G.2.2 0, 3, .inl (fun _ => 0))), (q4, .inl (G.2.2 0, 3, .inl (fun _ => 0)))]) hk dX3_init_28 rfl rfl ac_int rfl (fun _ _ h9 => h9) (fun _ => rfl) (by decide +kernel) (by decide +kernel) rfl rfl rfl (fun _ => rfl) (fun q4 => ?_)
  refine vn_cs (nc' := 4) (ns' := 18) rfl rfl ?_
  refine vn_putR 33 [(h, .inr (3, [.ref q1, .ref q2, .ref q3, .ref q4, .int 0, .int 0])), (q1, .inl (G.2.2 0, 9, .inl (fun _ => 0))), (q2, .inl (G.2.2 0, 3, .inl (fun _ => 0))), (q3, .inl (G.2.2 0, 3, .inl (fun _ => 0))), (q4, .inl (G.2.2 0, 3, .inl (fun _ => 0)))] hk dX3_init_30 rfl (k0 := 0) rfl ci_3 rfl fl_3_21 rfl rfl (by decide +kernel) rfl rfl rfl rfl ?_
  refine vn_aload_n (i := 0) 34 hk dX3_init_33 rfl rfl rfl ?_
  refine vn_get 37 hk dX3_init_34 rfl (k0 := 0) rfl ci_3 rfl fl_3_11 rfl ?_
  refine vn_iconst 38 hk dX3_init_37 rfl ic_1 ?_
  refine vn_stat (As := [.ref q1, .int (1 : Int32)]) (k0 := 1) (wr := [(h, .inr (3, [.ref q1, .ref q2, .ref q3, .ref q4, .int 0, .int 0])), (q2, .inl (G.2.2 0, 3, .inl (fun _ => 0))), (q3, .inl (G.2.2 0, 3, .inl (fun _ => 0))), (q4, .inl (G.2.2 0, 3, .inl (fun _ => 0)))]) (st := []) 41 [0, 2, 3, 4] hk dX3_init_38 rfl ml_3_24 sf_J7_fill_53178 (k_fill9 G q1 (1 : Int32) (fun _ => 0)) rfl rfl rfl rfl rfl rfl rfl rfl (by decide +kernel) (by decide +kernel) (fun u => ?_)
  refine vn_perm [0, 4, 1, 2, 3] [(h, .inr (3, [.ref q1, .ref q2, .ref q3, .ref q4, .int 0, .int 0])), (q1, .inl (G.2.2 0, 9, .inl (upd (upd (upd (upd (upd (upd (upd (upd (upd (fun _ => 0) 0 (1 : Int32)) 1 (1 : Int32)) 2 (1 : Int32)) 3 (1 : Int32)) 4 (1 : Int32)) 5 (1 : Int32)) 6 (1 : Int32)) 7 (1 : Int32)) 8 (1 : Int32)))), (q2, .inl (G.2.2 0, 3, .inl (fun _ => 0))), (q3, .inl (G.2.2 0, 3, .inl (fun _ => 0))), (q4, .inl (G.2.2 0, 3, .inl (fun _ => 0)))] rfl (by decide +kernel) rfl ?_
  refine vn_aload_n (i := 0) 42 hk dX3_init_41 rfl rfl rfl ?_
  refine vn_get 45 hk dX3_init_42 rfl (k0 := 0) rfl ci_3 rfl fl_3_15 rfl ?_
  refine vn_iconst 46 hk dX3_init_45 rfl ic_m1 ?_
  refine vn_stat (As := [.ref q2, .int (-1 : Int32)]) (k0 := 2) (wr := [(h, .inr (3, [.ref q1, .ref q2, .ref q3, .ref q4, .int 0, .int 0])), (q1, .inl (G.2.2 0, 9, .inl (upd (upd (upd (upd (upd (upd (upd (upd (upd (fun _ => 0) 0 (1 : Int32)) 1 (1 : Int32)) 2 (1 : Int32)) 3 (1 : Int32)) 4 (1 : Int32)) 5 (1 : Int32)) 6 (1 : Int32)) 7 (1 : Int32)) 8 (1 : Int32)))), (q3, .inl (G.2.2 0, 3, .inl (fun _ => 0))), (q4, .inl (G.2.2 0, 3, .inl (fun _ => 0)))]) (st := []) 49 [0, 1, 3, 4] hk dX3_init_46 rfl ml_3_24 sf_J7_fill_53178 (k_fill3 G q2 (-1 : Int32) (fun _ => 0)) rfl rfl rfl rfl rfl rfl rfl rfl (by decide +kernel) (by decide +kernel) (fun u => ?_)
  refine vn_perm [0, 1, 4, 2, 3] [(h, .inr (3, [.ref q1, .ref q2, .ref q3, .ref q4, .int 0, .int 0])), (q1, .inl (G.2.2 0, 9, .inl (upd (upd (upd (upd (upd (upd (upd (upd (upd (fun _ => 0) 0 (1 : Int32)) 1 (1 : Int32)) 2 (1 : Int32)) 3 (1 : Int32)) 4 (1 : Int32)) 5 (1 : Int32)) 6 (1 : Int32)) 7 (1 : Int32)) 8 (1 : Int32)))), (q2, .inl (G.2.2 0, 3, .inl (upd (upd (upd (fun _ => 0) 0 (-1 : Int32)) 1 (-1 : Int32)) 2 (-1 : Int32)))), (q3, .inl (G.2.2 0, 3, .inl (fun _ => 0))), (q4, .inl (G.2.2 0, 3, .inl (fun _ => 0)))] rfl (by decide +kernel) rfl ?_
  exact hret (q1, q2, q3, q4) _ _ dX3_init_49

theorem k_1 (G : GT) (h : Nat) : CtN G yX1_init cX1_init 1 2 4 16 [.ref h] [(h, .inr (1, [.null, .null, .null, .null]))] (fun (u : Nat × Nat × Nat × Nat) => match u with | (q1, q2, q3, q4) => [(h, .inr (1, [.ref q1, .ref q2, .ref q3, .ref q4])), (q1, .inl (G.2.2 0, 4, .inl (fun _ => 0))), (q2, .inl (G.2.2 0, 4, .inl (upd (upd (upd (upd (fun _ => 0) 0 (1 : Int32)) 1 (1 : Int32)) 2 (1 : Int32)) 3 (1 : Int32)))), (q3, .inl (G.2.2 0, 4, .inl (fun _ => 0))), (q4, .inl (G.2.2 0, 4, .inl (fun _ => 0)))]) := by
  refine ctN (L0 := [some (.ref h)]) (by decide +kernel) (fun h9 => rfl) rfl rfl (fun κ hk hret => ?_)
  have hk : KN G κ cX1_init RX1 2 4 16 := hk
  refine vn_aload_n (i := 0) 1 hk dX1_init_0 rfl rfl rfl ?_
  refine vn_obj 4 hk dX1_init_1 rfl ml_1_3 rfl rfl rfl rfl ?_
  refine vn_aload_n (i := 0) 5 hk dX1_init_4 rfl rfl rfl ?_
  refine vn_iconst 6 hk dX1_init_5 rfl ic_4 ?_
  refine vn_newa (t := 0) (a0 := (4, .inl (fun _ => 0))) 8 (fun q1 => [(h, .inr (1, [.null, .null, .null, .null])), (q1, .inl (G.2.2 0, 4, .inl (fun _ => 0)))]) hk dX1_init_6 rfl rfl ac_int rfl (fun _ _ h9 => h9) (fun _ => rfl) (by decide +kernel) (by decide +kernel) rfl rfl rfl (fun _ => rfl) (fun q1 => ?_)
  refine vn_cs (nc' := 1) (ns' := 4) rfl rfl ?_
  refine vn_putR 11 [(h, .inr (1, [.ref q1, .null, .null, .null])), (q1, .inl (G.2.2 0, 4, .inl (fun _ => 0)))] hk dX1_init_8 rfl (k0 := 0) rfl ci_1 rfl fl_1_11 rfl rfl (by decide +kernel) rfl rfl rfl rfl ?_
  refine vn_aload_n (i := 0) 12 hk dX1_init_11 rfl rfl rfl ?_
  refine vn_iconst 13 hk dX1_init_12 rfl ic_4 ?_
  refine vn_newa (t := 0) (a0 := (4, .inl (fun _ => 0))) 15 (fun q2 => [(h, .inr (1, [.ref q1, .null, .null, .null])), (q1, .inl (G.2.2 0, 4, .inl (fun _ => 0))), (q2, .inl (G.2.2 0, 4, .inl (fun _ => 0)))]) hk dX1_init_13 rfl rfl ac_int rfl (fun _ _ h9 => h9) (fun _ => rfl) (by decide +kernel) (by decide +kernel) rfl rfl rfl (fun _ => rfl) (fun q2 => ?_)
  refine vn_cs (nc' := 2) (ns' := 8) rfl rfl ?_
  refine vn_putR 18 [(h, .inr (1, [.ref q1, .ref q2, .null, .null])), (q1, .inl (G.2.2 0, 4, .inl (fun _ => 0))), (q2, .inl (G.2.2 0, 4, .inl (fun _ => 0)))] hk dX1_init_15 rfl (k0 := 0) rfl ci_1 rfl fl_1_15 rfl rfl (by decide +kernel) rfl rfl rfl rfl ?_
  refine vn_aload_n (i := 0) 19 hk dX1_init_18 rfl rfl rfl ?_
  refine vn_iconst 20 hk dX1_init_19 rfl ic_4 ?_
  refine vn_newa (t := 0) (a0 := (4, .inl (fun _ => 0))) 22 (fun q3 => [(h, .inr (1, [.ref q1, .ref q2, .null, .null])), (q1, .inl (G.2.2 0, 4, .inl (fun _ => 0))), (q2, .inl (G.2.2 0, 4, .inl (fun _ => 0))), (q3, .inl (G.2.2 0, 4, .inl (fun _ => 0)))]) hk dX1_init_20 rfl rfl ac_int rfl (fun _ _ h9 => h9) (fun _ => rfl) (by decide +kernel) (by decide +kernel) rfl rfl rfl (fun _ => rfl) (fun q3 => ?_)
  refine vn_cs (nc' := 3) (ns' := 12) rfl rfl ?_
  refine vn_putR 25 [(h, .inr (1, [.ref q1, .ref q2, .ref q3, .null])), (q1, .inl (G.2.2 0, 4, .inl (fun _ => 0))), (q2, .inl (G.2.2 0, 4, .inl (fun _ => 0))), (q3, .inl (G.2.2 0, 4, .inl (fun _ => 0)))] hk dX1_init_22 rfl (k0 := 0) rfl ci_1 rfl fl_1_18 rfl rfl (by decide +kernel) rfl rfl rfl rfl ?_
  refine vn_aload_n (i := 0) 26 hk dX1_init_25 rfl rfl rfl ?_
  refine vn_iconst 27 hk dX1_init_26 rfl ic_4 ?_
  refine vn_newa (t := 0) (a0 := (4, .inl (fun _ => 0))) 29 (fun q4 => [(h, .inr (1, [.ref q1, .ref q2, .ref q3, .null])), (q1, .inl (G.2.2 0, 4, .inl (fun _ => 0))), (q2, .inl (G.2.2 0, 4, .inl (fun _ => 0))), (q3, .inl (G.2.2 0, 4, .inl (fun _ => 0))), (q4, .inl (G.2.2 0, 4, .inl (fun _ => 0)))]) hk dX1_init_27 rfl rfl ac_int rfl (fun _ _ h9 => h9) (fun _ => rfl) (by decide +kernel) (by decide +kernel) rfl rfl rfl (fun _ => rfl) (fun q4 => ?_)
  refine vn_cs (nc' := 4) (ns' := 16) rfl rfl ?_
  refine vn_putR 32 [(h, .inr (1, [.ref q1, .ref q2, .ref q3, .ref q4])), (q1, .inl (G.2.2 0, 4, .inl (fun _ => 0))), (q2, .inl (G.2.2 0, 4, .inl (fun _ => 0))), (q3, .inl (G.2.2 0, 4, .inl (fun _ => 0))), (q4, .inl (G.2.2 0, 4, .inl (fun _ => 0)))] hk dX1_init_29 rfl (k0 := 0) rfl ci_1 rfl fl_1_21 rfl rfl (by decide +kernel) rfl rfl rfl rfl ?_
  refine vn_aload_n (i := 0) 33 hk dX1_init_32 rfl rfl rfl ?_
  refine vn_get 36 hk dX1_init_33 rfl (k0 := 0) rfl ci_1 rfl fl_1_15 rfl ?_
  refine vn_iconst 37 hk dX1_init_36 rfl ic_1 ?_
  refine vn_stat (As := [.ref q2, .int (1 : Int32)]) (k0 := 2) (wr := [(h, .inr (1, [.ref q1, .ref q2, .ref q3, .ref q4])), (q1, .inl (G.2.2 0, 4, .inl (fun _ => 0))), (q3, .inl (G.2.2 0, 4, .inl (fun _ => 0))), (q4, .inl (G.2.2 0, 4, .inl (fun _ => 0)))]) (st := []) 40 [0, 1, 3, 4] hk dX1_init_37 rfl ml_1_24 sf_J7_fill_53178 (k_fill4 G q2 (1 : Int32) (fun _ => 0)) rfl rfl rfl rfl rfl rfl rfl rfl (by decide +kernel) (by decide +kernel) (fun u => ?_)
  refine vn_perm [0, 1, 4, 2, 3] [(h, .inr (1, [.ref q1, .ref q2, .ref q3, .ref q4])), (q1, .inl (G.2.2 0, 4, .inl (fun _ => 0))), (q2, .inl (G.2.2 0, 4, .inl (upd (upd (upd (upd (fun _ => 0) 0 (1 : Int32)) 1 (1 : Int32)) 2 (1 : Int32)) 3 (1 : Int32)))), (q3, .inl (G.2.2 0, 4, .inl (fun _ => 0))), (q4, .inl (G.2.2 0, 4, .inl (fun _ => 0)))] rfl (by decide +kernel) rfl ?_
  exact hret (q1, q2, q3, q4) _ _ dX1_init_40

theorem k_9 (G : GT) (h : Nat) : CtN G yX9_init cX9_init 1 2 7 116 [.ref h] [(h, .inr (9, [.null, .int 0, .null, .null, .int 0, .null, .null, .null, .null]))] (fun (u : Nat × Nat × Nat × Nat × Nat × Nat × Nat) => match u with | (q1, q2, q3, q4, q5, q6, q7) => [(h, .inr (9, [.ref q1, .int 0, .ref q2, .ref q3, .int 0, .ref q4, .ref q5, .ref q6, .ref q7])), (q1, .inl (G.2.2 0, 8, .inl (upd (upd (upd (upd (upd (upd (upd (upd (fun _ => 0) 0 (3 : Int32)) 1 (3 : Int32)) 2 (3 : Int32)) 3 (3 : Int32)) 4 (3 : Int32)) 5 (3 : Int32)) 6 (3 : Int32)) 7 (3 : Int32)))), (q2, .inl (G.2.2 0, 20, .inl (fun _ => 0))), (q3, .inl (G.2.2 0, 20, .inl (fun _ => 0))), (q4, .inl (G.2.2 0, 20, .inl (fun _ => 0))), (q5, .inl (G.2.2 1, 20, .inl (fun _ => 0))), (q6, .inl (G.2.2 0, 20, .inl (fun _ => 0))), (q7, .inl (G.2.2 0, 8, .inl (fun _ => 0)))]) := by
  refine ctN (L0 := [some (.ref h)]) (by decide +kernel) (fun h9 => rfl) rfl rfl (fun κ hk hret => ?_)
  have hk : KN G κ cX9_init RX9 2 7 116 := hk
  refine vn_aload_n (i := 0) 1 hk dX9_init_0 rfl rfl rfl ?_
  refine vn_obj 4 hk dX9_init_1 rfl ml_9_3 rfl rfl rfl rfl ?_
  refine vn_aload_n (i := 0) 5 hk dX9_init_4 rfl rfl rfl ?_
  refine vn_bipush 7 hk dX9_init_5 rfl bp_8 ?_
  refine vn_newa (t := 0) (a0 := (8, .inl (fun _ => 0))) 9 (fun q1 => [(h, .inr (9, [.null, .int 0, .null, .null, .int 0, .null, .null, .null, .null])), (q1, .inl (G.2.2 0, 8, .inl (fun _ => 0)))]) hk dX9_init_7 rfl rfl ac_int rfl (fun _ _ h9 => h9) (fun _ => rfl) (by decide +kernel) (by decide +kernel) rfl rfl rfl (fun _ => rfl) (fun q1 => ?_)
  refine vn_cs (nc' := 1) (ns' := 8) rfl rfl ?_
  refine vn_putR 12 [(h, .inr (9, [.ref q1, .int 0, .null, .null, .int 0, .null, .null, .null, .null])), (q1, .inl (G.2.2 0, 8, .inl (fun _ => 0)))] hk dX9_init_9 rfl (k0 := 0) rfl ci_9 rfl fl_9_11 rfl rfl (by decide +kernel) rfl rfl rfl rfl ?_
  refine vn_aload_n (i := 0) 13 hk dX9_init_12 rfl rfl rfl ?_
  refine vn_bipush 15 hk dX9_init_13 rfl bp_20 ?_
  refine vn_newa (t := 0) (a0 := (20, .inl (fun _ => 0))) 17 (fun q2 => [(h, .inr (9, [.ref q1, .int 0, .null, .null, .int 0, .null, .null, .null, .null])), (q1, .inl (G.2.2 0, 8, .inl (fun _ => 0))), (q2, .inl (G.2.2 0, 20, .inl (fun _ => 0)))]) hk dX9_init_15 rfl rfl ac_int rfl (fun _ _ h9 => h9) (fun _ => rfl) (by decide +kernel) (by decide +kernel) rfl rfl rfl (fun _ => rfl) (fun q2 => ?_)
  refine vn_cs (nc' := 2) (ns' := 28) rfl rfl ?_
  refine vn_putR 20 [(h, .inr (9, [.ref q1, .int 0, .ref q2, .null, .int 0, .null, .null, .null, .null])), (q1, .inl (G.2.2 0, 8, .inl (fun _ => 0))), (q2, .inl (G.2.2 0, 20, .inl (fun _ => 0)))] hk dX9_init_17 rfl (k0 := 0) rfl ci_9 rfl fl_9_15 rfl rfl (by decide +kernel) rfl rfl rfl rfl ?_
  refine vn_aload_n (i := 0) 21 hk dX9_init_20 rfl rfl rfl ?_
  refine vn_bipush 23 hk dX9_init_21 rfl bp_20 ?_
  refine vn_newa (t := 0) (a0 := (20, .inl (fun _ => 0))) 25 (fun q3 => [(h, .inr (9, [.ref q1, .int 0, .ref q2, .null, .int 0, .null, .null, .null, .null])), (q1, .inl (G.2.2 0, 8, .inl (fun _ => 0))), (q2, .inl (G.2.2 0, 20, .inl (fun _ => 0))), (q3, .inl (G.2.2 0, 20, .inl (fun _ => 0)))]) hk dX9_init_23 rfl rfl ac_int rfl (fun _ _ h9 => h9) (fun _ => rfl) (by decide +kernel) (by decide +kernel) rfl rfl rfl (fun _ => rfl) (fun q3 => ?_)
  refine vn_cs (nc' := 3) (ns' := 48) rfl rfl ?_
  refine vn_putR 28 [(h, .inr (9, [.ref q1, .int 0, .ref q2, .ref q3, .int 0, .null, .null, .null, .null])), (q1, .inl (G.2.2 0, 8, .inl (fun _ => 0))), (q2, .inl (G.2.2 0, 20, .inl (fun _ => 0))), (q3, .inl (G.2.2 0, 20, .inl (fun _ => 0)))] hk dX9_init_25 rfl (k0 := 0) rfl ci_9 rfl fl_9_18 rfl rfl (by decide +kernel) rfl rfl rfl rfl ?_
  refine vn_aload_n (i := 0) 29 hk dX9_init_28 rfl rfl rfl ?_
  refine vn_bipush 31 hk dX9_init_29 rfl bp_20 ?_
  refine vn_newa (t := 0) (a0 := (20, .inl (fun _ => 0))) 33 (fun q4 => [(h, .inr (9, [.ref q1, .int 0, .ref q2, .ref q3, .int 0, .null, .null, .null, .null])), (q1, .inl (G.2.2 0, 8, .inl (fun _ => 0))), (q2, .inl (G.2.2 0, 20, .inl (fun _ => 0))), (q3, .inl (G.2.2 0, 20, .inl (fun _ => 0))), (q4, .inl (G.2.2 0, 20, .inl (fun _ => 0)))]) hk dX9_init_31 rfl rfl ac_int rfl (fun _ _ h9 => h9) (fun _ => rfl) (by decide +kernel) (by decide +kernel) rfl rfl rfl (fun _ => rfl) (fun q4 => ?_)
  refine vn_cs (nc' := 4) (ns' := 68) rfl rfl ?_
  refine vn_putR 36 [(h, .inr (9, [.ref q1, .int 0, .ref q2, .ref q3, .int 0, .ref q4, .null, .null, .null])), (q1, .inl (G.2.2 0, 8, .inl (fun _ => 0))), (q2, .inl (G.2.2 0, 20, .inl (fun _ => 0))), (q3, .inl (G.2.2 0, 20, .inl (fun _ => 0))), (q4, .inl (G.2.2 0, 20, .inl (fun _ => 0)))] hk dX9_init_33 rfl (k0 := 0) rfl ci_9 rfl fl_9_21 rfl rfl (by decide +kernel) rfl rfl rfl rfl ?_
  refine vn_aload_n (i := 0) 37 hk dX9_init_36 rfl rfl rfl ?_
  refine vn_bipush 39 hk dX9_init_37 rfl bp_20 ?_
  refine vn_newa (t := 1) (a0 := (20, .inl (fun _ => 0))) 41 (fun q5 => [(h, .inr (9, [.ref q1, .int 0, .ref q2, .ref q3, .int 0, .ref q4, .null, .null, .null])), (q1, .inl (G.2.2 0, 8, .inl (fun _ => 0))), (q2, .inl (G.2.2 0, 20, .inl (fun _ => 0))), (q3, .inl (G.2.2 0, 20, .inl (fun _ => 0))), (q4, .inl (G.2.2 0, 20, .inl (fun _ => 0))), (q5, .inl (G.2.2 1, 20, .inl (fun _ => 0)))]) hk dX9_init_39 rfl rfl ac_boolean rfl (fun _ _ h9 => h9) (fun _ => rfl) (by decide +kernel) (by decide +kernel) rfl rfl rfl (fun _ => rfl) (fun q5 => ?_)
  refine vn_cs (nc' := 5) (ns' := 88) rfl rfl ?_
  refine vn_putR 44 [(h, .inr (9, [.ref q1, .int 0, .ref q2, .ref q3, .int 0, .ref q4, .ref q5, .null, .null])), (q1, .inl (G.2.2 0, 8, .inl (fun _ => 0))), (q2, .inl (G.2.2 0, 20, .inl (fun _ => 0))), (q3, .inl (G.2.2 0, 20, .inl (fun _ => 0))), (q4, .inl (G.2.2 0, 20, .inl (fun _ => 0))), (q5, .inl (G.2.2 1, 20, .inl (fun _ => 0)))] hk dX9_init_41 rfl (k0 := 0) rfl ci_9 rfl fl_9_24 rfl rfl (by decide +kernel) rfl rfl rfl rfl ?_
  refine vn_aload_n (i := 0) 45 hk dX9_init_44 rfl rfl rfl ?_
  refine vn_bipush 47 hk dX9_init_45 rfl bp_20 ?_
  refine vn_newa (t := 0) (a0 := (20, .inl (fun _ => 0))) 49 (fun q6 => [(h, .inr (9, [.ref q1, .int 0, .ref q2, .ref q3, .int 0, .ref q4, .ref q5, .null, .null])), (q1, .inl (G.2.2 0, 8, .inl (fun _ => 0))), (q2, .inl (G.2.2 0, 20, .inl (fun _ => 0))), (q3, .inl (G.2.2 0, 20, .inl (fun _ => 0))), (q4, .inl (G.2.2 0, 20, .inl (fun _ => 0))), (q5, .inl (G.2.2 1, 20, .inl (fun _ => 0))), (q6, .inl (G.2.2 0, 20, .inl (fun _ => 0)))]) hk dX9_init_47 rfl rfl ac_int rfl (fun _ _ h9 => h9) (fun _ => rfl) (by decide +kernel) (by decide +kernel) rfl rfl rfl (fun _ => rfl) (fun q6 => ?_)
  refine vn_cs (nc' := 6) (ns' := 108) rfl rfl ?_
  refine vn_putR 52 [(h, .inr (9, [.ref q1, .int 0, .ref q2, .ref q3, .int 0, .ref q4, .ref q5, .ref q6, .null])), (q1, .inl (G.2.2 0, 8, .inl (fun _ => 0))), (q2, .inl (G.2.2 0, 20, .inl (fun _ => 0))), (q3, .inl (G.2.2 0, 20, .inl (fun _ => 0))), (q4, .inl (G.2.2 0, 20, .inl (fun _ => 0))), (q5, .inl (G.2.2 1, 20, .inl (fun _ => 0))), (q6, .inl (G.2.2 0, 20, .inl (fun _ => 0)))] hk dX9_init_49 rfl (k0 := 0) rfl ci_9 rfl fl_9_28 rfl rfl (by decide +kernel) rfl rfl rfl rfl ?_
  refine vn_aload_n (i := 0) 53 hk dX9_init_52 rfl rfl rfl ?_
  refine vn_bipush 55 hk dX9_init_53 rfl bp_8 ?_
  refine vn_newa (t := 0) (a0 := (8, .inl (fun _ => 0))) 57 (fun q7 => [(h, .inr (9, [.ref q1, .int 0, .ref q2, .ref q3, .int 0, .ref q4, .ref q5, .ref q6, .null])), (q1, .inl (G.2.2 0, 8, .inl (fun _ => 0))), (q2, .inl (G.2.2 0, 20, .inl (fun _ => 0))), (q3, .inl (G.2.2 0, 20, .inl (fun _ => 0))), (q4, .inl (G.2.2 0, 20, .inl (fun _ => 0))), (q5, .inl (G.2.2 1, 20, .inl (fun _ => 0))), (q6, .inl (G.2.2 0, 20, .inl (fun _ => 0))), (q7, .inl (G.2.2 0, 8, .inl (fun _ => 0)))]) hk dX9_init_55 rfl rfl ac_int rfl (fun _ _ h9 => h9) (fun _ => rfl) (by decide +kernel) (by decide +kernel) rfl rfl rfl (fun _ => rfl) (fun q7 => ?_)
  refine vn_cs (nc' := 7) (ns' := 116) rfl rfl ?_
  refine vn_putR 60 [(h, .inr (9, [.ref q1, .int 0, .ref q2, .ref q3, .int 0, .ref q4, .ref q5, .ref q6, .ref q7])), (q1, .inl (G.2.2 0, 8, .inl (fun _ => 0))), (q2, .inl (G.2.2 0, 20, .inl (fun _ => 0))), (q3, .inl (G.2.2 0, 20, .inl (fun _ => 0))), (q4, .inl (G.2.2 0, 20, .inl (fun _ => 0))), (q5, .inl (G.2.2 1, 20, .inl (fun _ => 0))), (q6, .inl (G.2.2 0, 20, .inl (fun _ => 0))), (q7, .inl (G.2.2 0, 8, .inl (fun _ => 0)))] hk dX9_init_57 rfl (k0 := 0) rfl ci_9 rfl fl_9_31 rfl rfl (by decide +kernel) rfl rfl rfl rfl ?_
  refine vn_aload_n (i := 0) 61 hk dX9_init_60 rfl rfl rfl ?_
  refine vn_get 64 hk dX9_init_61 rfl (k0 := 0) rfl ci_9 rfl fl_9_11 rfl ?_
  refine vn_iconst 65 hk dX9_init_64 rfl ic_3 ?_
  refine vn_stat (As := [.ref q1, .int (3 : Int32)]) (k0 := 1) (wr := [(h, .inr (9, [.ref q1, .int 0, .ref q2, .ref q3, .int 0, .ref q4, .ref q5, .ref q6, .ref q7])), (q2, .inl (G.2.2 0, 20, .inl (fun _ => 0))), (q3, .inl (G.2.2 0, 20, .inl (fun _ => 0))), (q4, .inl (G.2.2 0, 20, .inl (fun _ => 0))), (q5, .inl (G.2.2 1, 20, .inl (fun _ => 0))), (q6, .inl (G.2.2 0, 20, .inl (fun _ => 0))), (q7, .inl (G.2.2 0, 8, .inl (fun _ => 0)))]) (st := []) 68 [0, 2, 3, 4, 5, 6, 7] hk dX9_init_65 rfl ml_9_34 sf_J7_fill_53178 (k_fill8 G q1 (3 : Int32) (fun _ => 0)) rfl rfl rfl rfl rfl rfl rfl rfl (by decide +kernel) (by decide +kernel) (fun u => ?_)
  refine vn_perm [0, 7, 1, 2, 3, 4, 5, 6] [(h, .inr (9, [.ref q1, .int 0, .ref q2, .ref q3, .int 0, .ref q4, .ref q5, .ref q6, .ref q7])), (q1, .inl (G.2.2 0, 8, .inl (upd (upd (upd (upd (upd (upd (upd (upd (fun _ => 0) 0 (3 : Int32)) 1 (3 : Int32)) 2 (3 : Int32)) 3 (3 : Int32)) 4 (3 : Int32)) 5 (3 : Int32)) 6 (3 : Int32)) 7 (3 : Int32)))), (q2, .inl (G.2.2 0, 20, .inl (fun _ => 0))), (q3, .inl (G.2.2 0, 20, .inl (fun _ => 0))), (q4, .inl (G.2.2 0, 20, .inl (fun _ => 0))), (q5, .inl (G.2.2 1, 20, .inl (fun _ => 0))), (q6, .inl (G.2.2 0, 20, .inl (fun _ => 0))), (q7, .inl (G.2.2 0, 8, .inl (fun _ => 0)))] rfl (by decide +kernel) rfl ?_
  exact hret (q1, q2, q3, q4, q5, q6, q7) _ _ dX9_init_68

