set_option maxHeartbeats 4000000
set_option maxRecDepth 100000
theorem c_X12_isLeakedInto (G : GT) (a1 : Int32) (σ : Hp) : CtI G false yX12_isLeakedInto cX12_isLeakedInto 4 (some .boolean) 0 [(rf G 86), (.int a1)] (rdI (f_X12_isLeakedInto a1 σ) σ) σ := by
  refine ctZr (L0 := [some (rf G 86), some (.int a1), none, none]) (by decide +kernel) rfl rfl rfl (fun κ hk he hret => ?_)
  have hk : KO G κ cX12_isLeakedInto RX12 0 := hk
  refine vv_iconst 1 hk dX12_isLeakedInto_0 rfl ic_0 ?_
  refine vv_istore_n (i := 2) 2 [some (rf G 86), some (.int a1), some (.int (0 : Int32)), none] hk dX12_isLeakedInto_1 rfl rfl rfl rfl ?_
  refine vv_iconst 3 hk dX12_isLeakedInto_2 rfl ic_0 ?_
  refine vv_istore_n (i := 3) 4 [some (rf G 86), some (.int a1), some (.int (0 : Int32)), some (.int (0 : Int32))] hk dX12_isLeakedInto_3 rfl rfl rfl rfl ?_
  refine vv_lp (fun t1 => (σ, 4, [some (rf G 86), some (.int a1), some (.int t1.1), some (.int t1.2)], [])) (fun kl4 hkl4 t1 => ?_) FU ((0 : Int32), (0 : Int32))
  refine vv_iload_n (i := 3) 5 hk dX12_isLeakedInto_4 rfl rfl rfl ?_
  refine vv_aload_n (i := 0) 6 hk dX12_isLeakedInto_5 rfl rfl rfl ?_
  refine vv_getI 9 hk he dX12_isLeakedInto_6 rfl la_86 rfl ci_12 rfl fl_12_210 sd_86 ?_
  refine vv_icmp_ge 54 12 hk dX12_isLeakedInto_9 rfl rfl ?_ ?_
  · skip
    refine vv_iload_n (i := 2) 55 hk dX12_isLeakedInto_54 rfl rfl rfl ?_
    exact hret _ _ _ dX12_isLeakedInto_55
  · skip
    refine vv_iload_n (i := 2) 13 hk dX12_isLeakedInto_12 rfl rfl rfl ?_
    refine vv_jn (fun t2 => (σ, 47, [some (rf G 86), some (.int a1), none, some (.int t1.2)], [(.int t2)])) (fun t2 => ?_) (fun k47 hk47 => ?_)
    · skip
      refine vv_istore_n (i := 2) 48 [some (rf G 86), some (.int a1), some (.int t2), some (.int t1.2)] hk dX12_isLeakedInto_47 rfl rfl rfl rfl ?_
      refine vv_iinc 51 (fun x3 => [some (rf G 86), some (.int a1), some (.int t2), some (.int x3)]) hk dX12_isLeakedInto_48 rfl rfl ic_1 (fun _ => rfl) (fun x3 => ?_)
      refine vv_goto 4 hk dX12_isLeakedInto_51 rfl ?_
      exact vv_le (ll_s rfl (ll_s rfl (ll_s rfl (ll_s rfl ll_0)))) (hkl4 (t2, x3))
    · skip
      refine vv_jn (fun t4 => (σ, 42, [some (rf G 86), some (.int a1), none, some (.int t1.2)], [])) (fun t4 => ?_) (fun k42 hk42 => ?_)
      · skip
        refine vv_iconst 43 hk dX12_isLeakedInto_42 rfl ic_1 ?_
        refine vv_goto 47 hk dX12_isLeakedInto_43 rfl ?_
        exact vv_le (ll_s rfl (ll_s rfl (ll_n (ll_s rfl ll_0)))) (hk47 (1 : Int32))
      · skip
        refine vv_if_ne 42 16 hk dX12_isLeakedInto_13 rfl rfl ?_ ?_
        · skip
          refine vv_aload_n (i := 0) 17 hk dX12_isLeakedInto_16 rfl rfl rfl ?_
          refine vv_getR 20 hk dX12_isLeakedInto_17 rfl la_86 rfl ci_12 rfl fl_12_138 ?_
          refine vv_iload_n (i := 3) 21 hk dX12_isLeakedInto_20 rfl rfl rfl ?_
          refine vv_iald 22 hk he dX12_isLeakedInto_21 rfl la_129 sd_129 (fun v5 => ?_)
          refine vv_aload_n (i := 0) 23 hk dX12_isLeakedInto_22 rfl rfl rfl ?_
          refine vv_getR 26 hk dX12_isLeakedInto_23 rfl la_86 rfl ci_12 rfl fl_12_138 ?_
          refine vv_iload_n (i := 1) 27 hk dX12_isLeakedInto_26 rfl rfl rfl ?_
          refine vv_iald 28 hk he dX12_isLeakedInto_27 rfl la_129 sd_129 (fun v6 => ?_)
          refine vv_jn (fun t7 => (σ, 46, [some (rf G 86), some (.int a1), none, some (.int t1.2)], [])) (fun t7 => ?_) (fun k46 hk46 => ?_)
          · skip
            refine vv_iconst 47 hk dX12_isLeakedInto_46 rfl ic_0 ?_
            exact vv_le (ll_s rfl (ll_s rfl (ll_n (ll_s rfl ll_0)))) (hk47 (0 : Int32))
          · skip
            refine vv_icmp_ne 46 31 hk dX12_isLeakedInto_28 rfl rfl ?_ ?_
            · skip
              refine vv_aload_n (i := 0) 32 hk dX12_isLeakedInto_31 rfl rfl rfl ?_
              refine vv_getR 35 hk dX12_isLeakedInto_32 rfl la_86 rfl ci_12 rfl fl_12_43 ?_
              refine vv_iconst 36 hk dX12_isLeakedInto_35 rfl ic_3 ?_
              refine vv_iload_n (i := 3) 37 hk dX12_isLeakedInto_36 rfl rfl rfl ?_
              refine vv_imul 38 hk dX12_isLeakedInto_37 rfl ?_
              refine vv_iald 39 hk he dX12_isLeakedInto_38 rfl la_98 sd_98 (fun v8 => ?_)
              refine vv_if_le 46 42 hk dX12_isLeakedInto_39 rfl rfl ?_ ?_
              · skip
                exact vv_le (ll_s rfl (ll_s rfl (ll_n (ll_s rfl ll_0)))) (hk46 ())
              · skip
                exact vv_le (ll_s rfl (ll_s rfl (ll_n (ll_s rfl ll_0)))) (hk42 ())
            · skip
              exact vv_le (ll_s rfl (ll_s rfl (ll_n (ll_s rfl ll_0)))) (hk46 ())
        · skip
          exact vv_le (ll_s rfl (ll_s rfl (ll_n (ll_s rfl ll_0)))) (hk42 ())
theorem c_X12_shortens (G : GT) (a1 : Int32) (σ : Hp) : CtV G false yX12_shortens cX12_shortens 5 none 1 [(rf G 86), (.int a1)] (f_X12_shortens a1 σ) σ := by
  refine ctV (L0 := [some (rf G 86), some (.int a1), none, none, none]) (by decide +kernel) rfl rfl rfl (fun κ hk he hret => ?_)
  have hk : KO G κ cX12_shortens RX12 1 := hk
  refine vv_lconst 1 hk dX12_shortens_0 rfl lc_0 ?_
  refine vv_lstore_n (i := 2) 2 [some (rf G 86), some (.int a1), some (.long (0 : Int64)), none, none] hk dX12_shortens_1 rfl rfl rfl rfl ?_
  refine vv_iconst 3 hk dX12_shortens_2 rfl ic_0 ?_
  refine vv_istore 5 [some (rf G 86), some (.int a1), some (.long (0 : Int64)), none, some (.int (0 : Int32))] hk dX12_shortens_3 rfl rfl rfl ?_
  refine vv_jn (fun t1 => (σ, 35, [some (rf G 86), some (.int a1), some (.long t1), none, none], [])) (fun t1 => ?_) (fun k35 hk35 => ?_)
  · skip
    refine vv_iconst 36 hk dX12_shortens_35 rfl ic_0 ?_
    refine vv_istore 38 [some (rf G 86), some (.int a1), some (.long t1), none, some (.int (0 : Int32))] hk dX12_shortens_36 rfl rfl rfl ?_
    refine vv_lp (fun t2 => (t2.2, 38, [some (rf G 86), some (.int a1), some (.long t1), none, some (.int t2.1)], [])) (fun kl38 hkl38 t2 => ?_) FU ((0 : Int32), σ)
    refine vv_iload 40 hk dX12_shortens_38 rfl rfl ?_
    refine vv_bipush 42 hk dX12_shortens_40 rfl bp_6 ?_
    refine vv_icmp_ge 73 45 hk dX12_shortens_42 rfl rfl ?_ ?_
    · skip
      exact hret _ _ _ dX12_shortens_73
    · skip
      refine vv_lload_n (i := 2) 46 hk dX12_shortens_45 rfl rfl rfl ?_
      refine vv_lconst 47 hk dX12_shortens_46 rfl lc_1 ?_
      refine vv_lcmp 48 hk dX12_shortens_47 rfl ?_
      refine vv_if_le 73 51 hk dX12_shortens_48 rfl rfl ?_ ?_
      · skip
        exact hret _ _ _ dX12_shortens_73
      · skip
        refine vv_aload_n (i := 0) 52 hk dX12_shortens_51 rfl rfl rfl ?_
        refine vv_getR 55 hk dX12_shortens_52 rfl la_86 rfl ci_12 rfl fl_12_134 ?_
        refine vv_bipush 57 hk dX12_shortens_55 rfl bp_6 ?_
        refine vv_iload_n (i := 1) 58 hk dX12_shortens_57 rfl rfl rfl ?_
        refine vv_imul 59 hk dX12_shortens_58 rfl ?_
        refine vv_iload 61 hk dX12_shortens_59 rfl rfl ?_
        refine vv_iadd 62 hk dX12_shortens_61 rfl ?_
        refine vv_dup2 63 hk dX12_shortens_62 rfl rfl rfl ?_
        refine vv_lald 64 hk he dX12_shortens_63 rfl la_128 sd_128 (fun v3 => ?_)
        refine vv_lload_n (i := 2) 65 hk dX12_shortens_64 rfl rfl rfl ?_
        refine vv_ldiv 66 hk dX12_shortens_65 rfl ?_
        refine vv_last 67 hk he dX12_shortens_66 rfl la_128 sd_128 (fun σ4 => ?_)
        refine vv_iinc 70 (fun x5 => [some (rf G 86), some (.int a1), some (.long t1), none, some (.int x5)]) hk dX12_shortens_67 rfl rfl ic_1 (fun _ => rfl) (fun x5 => ?_)
        refine vv_goto 38 hk dX12_shortens_70 rfl ?_
        exact vv_le (ll_s rfl (ll_s rfl (ll_s rfl (ll_n (ll_s rfl ll_0))))) (hkl38 (x5, σ4))
  · skip
    refine vv_lp (fun t6 => (σ, 5, [some (rf G 86), some (.int a1), some (.long t6.1), none, some (.int t6.2)], [])) (fun kl5 hkl5 t6 => ?_) FU ((0 : Int64), (0 : Int32))
    refine vv_iload 7 hk dX12_shortens_5 rfl rfl ?_
    refine vv_bipush 9 hk dX12_shortens_7 rfl bp_6 ?_
    refine vv_icmp_ge 35 12 hk dX12_shortens_9 rfl rfl ?_ ?_
    · skip
      exact vv_le (ll_s rfl (ll_s rfl (ll_s rfl (ll_n (ll_n ll_0))))) (hk35 t6.1)
    · skip
      refine vv_lload_n (i := 2) 13 hk dX12_shortens_12 rfl rfl rfl ?_
      refine vv_aload_n (i := 0) 14 hk dX12_shortens_13 rfl rfl rfl ?_
      refine vv_getR 17 hk dX12_shortens_14 rfl la_86 rfl ci_12 rfl fl_12_134 ?_
      refine vv_bipush 19 hk dX12_shortens_17 rfl bp_6 ?_
      refine vv_iload_n (i := 1) 20 hk dX12_shortens_19 rfl rfl rfl ?_
      refine vv_imul 21 hk dX12_shortens_20 rfl ?_
      refine vv_iload 23 hk dX12_shortens_21 rfl rfl ?_
      refine vv_iadd 24 hk dX12_shortens_23 rfl ?_
      refine vv_lald 25 hk he dX12_shortens_24 rfl la_128 sd_128 (fun v7 => ?_)
      refine vv_staJr (st := []) 28 hk he dX12_shortens_25 rfl ml_12_400 sf_X12_divisor (c_X12_divisor G t6.1 v7 σ) rfl rfl rfl rfl (fun v8 => ?_)
      refine vv_lstore_n (i := 2) 29 [some (rf G 86), some (.int a1), some (.long v8), none, some (.int t6.2)] hk dX12_shortens_28 rfl rfl rfl rfl ?_
      refine vv_iinc 32 (fun x9 => [some (rf G 86), some (.int a1), some (.long v8), none, some (.int x9)]) hk dX12_shortens_29 rfl rfl ic_1 (fun _ => rfl) (fun x9 => ?_)
      refine vv_goto 5 hk dX12_shortens_32 rfl ?_
      exact vv_le (ll_s rfl (ll_s rfl (ll_s rfl (ll_n (ll_s rfl ll_0))))) (hkl5 (v8, x9))
theorem c_X12_speedAt (G : GT) (a1 : Int32) (a2 : Int32) (σ : Hp) : CtI G false yX12_speedAt cX12_speedAt 5 (some .int) 0 [(rf G 86), (.int a1), (.int a2)] (rdI (f_X12_speedAt a1 a2 σ) σ) σ := by
  refine ctIr (L0 := [some (rf G 86), some (.int a1), some (.int a2), none, none]) (by decide +kernel) rfl rfl rfl (fun κ hk he hret => ?_)
  have hk : KO G κ cX12_speedAt RX12 0 := hk
  refine vv_aload_n (i := 0) 1 hk dX12_speedAt_0 rfl rfl rfl ?_
  refine vv_getR 4 hk dX12_speedAt_1 rfl la_86 rfl ci_12 rfl fl_12_141 ?_
  refine vv_iload_n (i := 1) 5 hk dX12_speedAt_4 rfl rfl rfl ?_
  refine vv_iald 6 hk he dX12_speedAt_5 rfl la_130 sd_130 (fun v1 => ?_)
  refine vv_istore_n (i := 3) 7 [some (rf G 86), some (.int a1), some (.int a2), some (.int v1), none] hk dX12_speedAt_6 rfl rfl rfl rfl ?_
  refine vv_iconst 8 hk dX12_speedAt_7 rfl ic_0 ?_
  refine vv_istore 10 [some (rf G 86), some (.int a1), some (.int a2), some (.int v1), some (.int (0 : Int32))] hk dX12_speedAt_8 rfl rfl rfl ?_
  refine vv_lp (fun t2 => (σ, 10, [some (rf G 86), some (.int a1), some (.int a2), some (.int t2.1), some (.int t2.2)], [])) (fun kl10 hkl10 t2 => ?_) FU (v1, (0 : Int32))
  refine vv_iload 12 hk dX12_speedAt_10 rfl rfl ?_
  refine vv_aload_n (i := 0) 13 hk dX12_speedAt_12 rfl rfl rfl ?_
  refine vv_getI 16 hk he dX12_speedAt_13 rfl la_86 rfl ci_12 rfl fl_12_217 sd_86 ?_
  refine vv_icmp_ge 64 19 hk dX12_speedAt_16 rfl rfl ?_ ?_
  · skip
    refine vv_iload_n (i := 3) 65 hk dX12_speedAt_64 rfl rfl rfl ?_
    exact hret _ _ _ dX12_speedAt_65
  · skip
    refine vv_iload_n (i := 3) 20 hk dX12_speedAt_19 rfl rfl rfl ?_
    refine vv_aload_n (i := 0) 21 hk dX12_speedAt_20 rfl rfl rfl ?_
    refine vv_getR 24 hk dX12_speedAt_21 rfl la_86 rfl ci_12 rfl fl_12_65 ?_
    refine vv_iload 26 hk dX12_speedAt_24 rfl rfl ?_
    refine vv_zald 27 hk he dX12_speedAt_26 rfl la_105 sd_105 (fun v3 => ?_)
    refine vv_jn (fun t4 => (σ, 56, [some (rf G 86), some (.int a1), some (.int a2), none, some (.int t2.2)], [(.int t4), (.int t2.1)])) (fun t4 => ?_) (fun k56 hk56 => ?_)
    · skip
      refine vv_iadd 57 hk dX12_speedAt_56 rfl ?_
      refine vv_istore_nL (i := 3) 58 (fun x5 => [some (rf G 86), some (.int a1), some (.int a2), some (.int x5), some (.int t2.2)]) hk dX12_speedAt_57 rfl rfl rfl (fun _ => rfl) (fun x5 => ?_)
      refine vv_iinc 61 (fun x6 => [some (rf G 86), some (.int a1), some (.int a2), some (.int x5), some (.int x6)]) hk dX12_speedAt_58 rfl rfl ic_1 (fun _ => rfl) (fun x6 => ?_)
      refine vv_goto 10 hk dX12_speedAt_61 rfl ?_
      exact vv_le (ll_s rfl (ll_s rfl (ll_s rfl (ll_s rfl (ll_s rfl ll_0))))) (hkl10 (x5, x6))
    · skip
      refine vv_jn (fun t7 => (σ, 55, [some (rf G 86), some (.int a1), some (.int a2), none, some (.int t2.2)], [(.int t2.1)])) (fun t7 => ?_) (fun k55 hk55 => ?_)
      · skip
        refine vv_iconst 56 hk dX12_speedAt_55 rfl ic_0 ?_
        exact vv_le (ll_s rfl (ll_s rfl (ll_s rfl (ll_n (ll_s rfl ll_0))))) (hk56 (0 : Int32))
      · skip
        refine vv_if_eq 55 30 hk dX12_speedAt_27 rfl rfl ?_ ?_
        · skip
          exact vv_le (ll_s rfl (ll_s rfl (ll_s rfl (ll_n (ll_s rfl ll_0))))) (hk55 ())
        · skip
          refine vv_aload_n (i := 0) 31 hk dX12_speedAt_30 rfl rfl rfl ?_
          refine vv_getR 34 hk dX12_speedAt_31 rfl la_86 rfl ci_12 rfl fl_12_34 ?_
          refine vv_iload 36 hk dX12_speedAt_34 rfl rfl ?_
          refine vv_iald 37 hk he dX12_speedAt_36 rfl la_95 sd_95 (fun v8 => ?_)
          refine vv_iload_n (i := 1) 38 hk dX12_speedAt_37 rfl rfl rfl ?_
          refine vv_icmp_ne 55 41 hk dX12_speedAt_38 rfl rfl ?_ ?_
          · skip
            refine vv_aload_n (i := 0) 42 hk dX12_speedAt_41 rfl rfl rfl ?_
            refine vv_getR 45 hk dX12_speedAt_42 rfl la_86 rfl ci_12 rfl fl_12_37 ?_
            refine vv_iconst 46 hk dX12_speedAt_45 rfl ic_3 ?_
            refine vv_iload 48 hk dX12_speedAt_46 rfl rfl ?_
            refine vv_imul 49 hk dX12_speedAt_48 rfl ?_
            refine vv_iload_n (i := 2) 50 hk dX12_speedAt_49 rfl rfl rfl ?_
            refine vv_iadd 51 hk dX12_speedAt_50 rfl ?_
            refine vv_iald 52 hk he dX12_speedAt_51 rfl la_96 sd_96 (fun v9 => ?_)
            refine vv_goto 56 hk dX12_speedAt_52 rfl ?_
            exact vv_le (ll_s rfl (ll_s rfl (ll_s rfl (ll_n (ll_s rfl ll_0))))) (hk56 v9)
          · skip
            exact vv_le (ll_s rfl (ll_s rfl (ll_s rfl (ll_n (ll_s rfl ll_0))))) (hk55 ())
theorem c_X12_solves (G : GT) (a1 : Int32) (σ : Hp) : CtV G false yX12_solves cX12_solves 9 none 2 [(rf G 86), (.int a1)] (f_X12_solves a1 σ) σ := by
  refine ctV (L0 := [some (rf G 86), some (.int a1), none, none, none, none, none, none, none]) (by decide +kernel) rfl rfl rfl (fun κ hk he hret => ?_)
  have hk : KO G κ cX12_solves RX12 2 := hk
  refine vv_aload_n (i := 0) 1 hk dX12_solves_0 rfl rfl rfl ?_
  refine vv_invV (st := []) 4 hk he dX12_solves_1 rfl ml_12_404 cf_X12_findParts la_86 ci_12 (c_X12_findParts G σ) rfl rfl rfl rfl (fun σ1 => ?_)
  refine vv_iconst 5 hk dX12_solves_4 rfl ic_0 ?_
  refine vv_istore_n (i := 2) 6 [some (rf G 86), some (.int a1), some (.int (0 : Int32)), none, none, none, none, none, none] hk dX12_solves_5 rfl rfl rfl rfl ?_
  refine vv_jn (fun t2 => (t2, 87, [some (rf G 86), some (.int a1), none, none, none, none, none, none, none], [])) (fun t2 => ?_) (fun k87 hk87 => ?_)
  · skip
    refine vv_iconst 88 hk dX12_solves_87 rfl ic_0 ?_
    refine vv_istore_n (i := 2) 89 [some (rf G 86), some (.int a1), some (.int (0 : Int32)), none, none, none, none, none, none] hk dX12_solves_88 rfl rfl rfl rfl ?_
    refine vv_jn (fun t3 => (t3, 108, [some (rf G 86), some (.int a1), none, none, none, none, none, none, none], [])) (fun t3 => ?_) (fun k108 hk108 => ?_)
    · skip
      refine vv_iconst 109 hk dX12_solves_108 rfl ic_0 ?_
      refine vv_istore_n (i := 2) 110 [some (rf G 86), some (.int a1), some (.int (0 : Int32)), none, none, none, none, none, none] hk dX12_solves_109 rfl rfl rfl rfl ?_
      refine vv_jn (fun t4 => (t4, 190, [some (rf G 86), none, none, none, none, none, none, none, none], [])) (fun t4 => ?_) (fun k190 hk190 => ?_)
      · skip
        refine vv_iconst 191 hk dX12_solves_190 rfl ic_0 ?_
        refine vv_istore_n (i := 2) 192 [some (rf G 86), none, some (.int (0 : Int32)), none, none, none, none, none, none] hk dX12_solves_191 rfl rfl rfl rfl ?_
        refine vv_jn (fun t5 => (t5, 330, [some (rf G 86), none, none, none, none, none, none, none, none], [])) (fun t5 => ?_) (fun k330 hk330 => ?_)
        · skip
          refine vv_iconst 331 hk dX12_solves_330 rfl ic_0 ?_
          refine vv_istore_n (i := 2) 332 [some (rf G 86), none, some (.int (0 : Int32)), none, none, none, none, none, none] hk dX12_solves_331 rfl rfl rfl rfl ?_
          refine vv_lp (fun t6 => (t6.2, 332, [some (rf G 86), none, some (.int t6.1), none, none, none, none, none, none], [])) (fun kl332 hkl332 t6 => ?_) FU ((0 : Int32), t5)
          refine vv_iload_n (i := 2) 333 hk dX12_solves_332 rfl rfl rfl ?_
          refine vv_aload_n (i := 0) 334 hk dX12_solves_333 rfl rfl rfl ?_
          refine vv_getI 337 hk he dX12_solves_334 rfl la_86 rfl ci_12 rfl fl_12_210 sd_86 ?_
          refine vv_icmp_ge 467 340 hk dX12_solves_337 rfl rfl ?_ ?_
          · skip
            exact hret _ _ _ dX12_solves_467
          · skip
            refine vv_iconst 341 hk dX12_solves_340 rfl ic_0 ?_
            refine vv_istore_n (i := 3) 342 [some (rf G 86), none, some (.int t6.1), some (.int (0 : Int32)), none, none, none, none, none] hk dX12_solves_341 rfl rfl rfl rfl ?_
            refine vv_jn (fun t7 => (t7, 461, [some (rf G 86), none, some (.int t6.1), none, none, none, none, none, none], [])) (fun t7 => ?_) (fun k461 hk461 => ?_)
            · skip
              refine vv_iinc 464 (fun x8 => [some (rf G 86), none, some (.int x8), none, none, none, none, none, none]) hk dX12_solves_461 rfl rfl ic_1 (fun _ => rfl) (fun x8 => ?_)
              refine vv_goto 332 hk dX12_solves_464 rfl ?_
              exact vv_le (ll_s rfl (ll_n (ll_s rfl (ll_n (ll_n (ll_n (ll_n (ll_n (ll_n ll_0))))))))) (hkl332 (x8, t7))
            · skip
              refine vv_lp (fun t9 => (t9.2, 342, [some (rf G 86), none, some (.int t6.1), some (.int t9.1), none, none, none, none, none], [])) (fun kl342 hkl342 t9 => ?_) FU ((0 : Int32), t6.2)
              refine vv_iload_n (i := 3) 343 hk dX12_solves_342 rfl rfl rfl ?_
              refine vv_aload_n (i := 0) 344 hk dX12_solves_343 rfl rfl rfl ?_
              refine vv_getI 347 hk he dX12_solves_344 rfl la_86 rfl ci_12 rfl fl_12_210 sd_86 ?_
              refine vv_icmp_ge 461 350 hk dX12_solves_347 rfl rfl ?_ ?_
              · skip
                exact vv_le (ll_s rfl (ll_n (ll_s rfl (ll_n (ll_n (ll_n (ll_n (ll_n (ll_n ll_0))))))))) (hk461 t9.2)
              · skip
                refine vv_aload_n (i := 0) 351 hk dX12_solves_350 rfl rfl rfl ?_
                refine vv_getR 354 hk dX12_solves_351 rfl la_86 rfl ci_12 rfl fl_12_134 ?_
                refine vv_bipush 356 hk dX12_solves_354 rfl bp_6 ?_
                refine vv_iload_n (i := 3) 357 hk dX12_solves_356 rfl rfl rfl ?_
                refine vv_imul 358 hk dX12_solves_357 rfl ?_
                refine vv_iload_n (i := 2) 359 hk dX12_solves_358 rfl rfl rfl ?_
                refine vv_iadd 360 hk dX12_solves_359 rfl ?_
                refine vv_lald 361 hk he dX12_solves_360 rfl la_128 sd_128 (fun v10 => ?_)
                refine vv_lstore 363 [some (rf G 86), none, some (.int t6.1), some (.int t9.1), some (.long v10), none, none, none, none] hk dX12_solves_361 rfl rfl rfl ?_
                refine vv_aload_n (i := 0) 364 hk dX12_solves_363 rfl rfl rfl ?_
                refine vv_getR 367 hk dX12_solves_364 rfl la_86 rfl ci_12 rfl fl_12_134 ?_
                refine vv_bipush 369 hk dX12_solves_367 rfl bp_6 ?_
                refine vv_iload_n (i := 2) 370 hk dX12_solves_369 rfl rfl rfl ?_
                refine vv_imul 371 hk dX12_solves_370 rfl ?_
                refine vv_iload_n (i := 2) 372 hk dX12_solves_371 rfl rfl rfl ?_
                refine vv_iadd 373 hk dX12_solves_372 rfl ?_
                refine vv_lald 374 hk he dX12_solves_373 rfl la_128 sd_128 (fun v11 => ?_)
                refine vv_lstore 376 [some (rf G 86), none, some (.int t6.1), some (.int t9.1), some (.long v10), none, some (.long v11), none, none] hk dX12_solves_374 rfl rfl rfl ?_
                refine vv_iload_n (i := 3) 377 hk dX12_solves_376 rfl rfl rfl ?_
                refine vv_iload_n (i := 2) 378 hk dX12_solves_377 rfl rfl rfl ?_
                refine vv_jn (fun t12 => (t12, 455, [some (rf G 86), none, some (.int t6.1), some (.int t9.1), none, none, none, none, none], [])) (fun t12 => ?_) (fun k455 hk455 => ?_)
                · skip
                  refine vv_iinc 458 (fun x13 => [some (rf G 86), none, some (.int t6.1), some (.int x13), none, none, none, none, none]) hk dX12_solves_455 rfl rfl ic_1 (fun _ => rfl) (fun x13 => ?_)
                  refine vv_goto 342 hk dX12_solves_458 rfl ?_
                  exact vv_le (ll_s rfl (ll_n (ll_s rfl (ll_s rfl (ll_n (ll_n (ll_n (ll_n (ll_n ll_0))))))))) (hkl342 (x13, t12))
                · skip
                  refine vv_icmp_eq 455 381 hk dX12_solves_378 rfl rfl ?_ ?_
                  · skip
                    exact vv_le (ll_s rfl (ll_n (ll_s rfl (ll_s rfl (ll_n (ll_n (ll_n (ll_n (ll_n ll_0))))))))) (hk455 t9.2)
                  · skip
                    refine vv_lload 383 hk dX12_solves_381 rfl rfl ?_
                    refine vv_lconst 384 hk dX12_solves_383 rfl lc_0 ?_
                    refine vv_lcmp 385 hk dX12_solves_384 rfl ?_
                    refine vv_if_ne 391 388 hk dX12_solves_385 rfl rfl ?_ ?_
                    · skip
                      refine vv_goto 455 hk dX12_solves_388 rfl ?_
                      exact vv_le (ll_s rfl (ll_n (ll_s rfl (ll_s rfl (ll_n (ll_n (ll_n (ll_n (ll_n ll_0))))))))) (hk455 t9.2)
                    · skip
                      refine vv_iconst 392 hk dX12_solves_391 rfl ic_0 ?_
                      refine vv_istore 394 [some (rf G 86), none, some (.int t6.1), some (.int t9.1), some (.long v10), none, some (.long v11), none, some (.int (0 : Int32))] hk dX12_solves_392 rfl rfl rfl ?_
                      refine vv_jn (fun t14 => (t14, 450, [some (rf G 86), none, some (.int t6.1), some (.int t9.1), none, none, none, none, none], [])) (fun t14 => ?_) (fun k450 hk450 => ?_)
                      · skip
                        refine vv_aload_n (i := 0) 451 hk dX12_solves_450 rfl rfl rfl ?_
                        refine vv_iload_n (i := 3) 452 hk dX12_solves_451 rfl rfl rfl ?_
                        refine vv_invV (st := []) 455 hk he dX12_solves_452 rfl ml_12_410 cf_X12_shortens la_86 ci_12 (c_X12_shortens G t9.1 t14) rfl rfl rfl rfl (fun σ15 => ?_)
                        exact vv_le (ll_s rfl (ll_n (ll_s rfl (ll_s rfl (ll_n (ll_n (ll_n (ll_n (ll_n ll_0))))))))) (hk455 σ15)
                      · skip
                        refine vv_lp (fun t16 => (t16.2, 394, [some (rf G 86), none, some (.int t6.1), some (.int t9.1), some (.long v10), none, some (.long v11), none, some (.int t16.1)], [])) (fun kl394 hkl394 t16 => ?_) FU ((0 : Int32), t9.2)
                        refine vv_iload 396 hk dX12_solves_394 rfl rfl ?_
                        refine vv_bipush 398 hk dX12_solves_396 rfl bp_6 ?_
                        refine vv_icmp_ge 450 401 hk dX12_solves_398 rfl rfl ?_ ?_
                        · skip
                          exact vv_le (ll_s rfl (ll_n (ll_s rfl (ll_s rfl (ll_n (ll_n (ll_n (ll_n (ll_n ll_0))))))))) (hk450 t16.2)
                        · skip
                          refine vv_aload_n (i := 0) 402 hk dX12_solves_401 rfl rfl rfl ?_
                          refine vv_getR 405 hk dX12_solves_402 rfl la_86 rfl ci_12 rfl fl_12_134 ?_
                          refine vv_bipush 407 hk dX12_solves_405 rfl bp_6 ?_
                          refine vv_iload_n (i := 3) 408 hk dX12_solves_407 rfl rfl rfl ?_
                          refine vv_imul 409 hk dX12_solves_408 rfl ?_
                          refine vv_iload 411 hk dX12_solves_409 rfl rfl ?_
                          refine vv_iadd 412 hk dX12_solves_411 rfl ?_
                          refine vv_aload_n (i := 0) 413 hk dX12_solves_412 rfl rfl rfl ?_
                          refine vv_getR 416 hk dX12_solves_413 rfl la_86 rfl ci_12 rfl fl_12_134 ?_
                          refine vv_bipush 418 hk dX12_solves_416 rfl bp_6 ?_
                          refine vv_iload_n (i := 3) 419 hk dX12_solves_418 rfl rfl rfl ?_
                          refine vv_imul 420 hk dX12_solves_419 rfl ?_
                          refine vv_iload 422 hk dX12_solves_420 rfl rfl ?_
                          refine vv_iadd 423 hk dX12_solves_422 rfl ?_
                          refine vv_lald 424 hk he dX12_solves_423 rfl la_128 sd_128 (fun v17 => ?_)
                          refine vv_lload 426 hk dX12_solves_424 rfl rfl ?_
                          refine vv_lmul 427 hk dX12_solves_426 rfl ?_
                          refine vv_aload_n (i := 0) 428 hk dX12_solves_427 rfl rfl rfl ?_
                          refine vv_getR 431 hk dX12_solves_428 rfl la_86 rfl ci_12 rfl fl_12_134 ?_
                          refine vv_bipush 433 hk dX12_solves_431 rfl bp_6 ?_
                          refine vv_iload_n (i := 2) 434 hk dX12_solves_433 rfl rfl rfl ?_
                          refine vv_imul 435 hk dX12_solves_434 rfl ?_
                          refine vv_iload 437 hk dX12_solves_435 rfl rfl ?_
                          refine vv_iadd 438 hk dX12_solves_437 rfl ?_
                          refine vv_lald 439 hk he dX12_solves_438 rfl la_128 sd_128 (fun v18 => ?_)
                          refine vv_lload 441 hk dX12_solves_439 rfl rfl ?_
                          refine vv_lmul 442 hk dX12_solves_441 rfl ?_
                          refine vv_lsub 443 hk dX12_solves_442 rfl ?_
                          refine vv_last 444 hk he dX12_solves_443 rfl la_128 sd_128 (fun σ19 => ?_)
                          refine vv_iinc 447 (fun x20 => [some (rf G 86), none, some (.int t6.1), some (.int t9.1), some (.long v10), none, some (.long v11), none, some (.int x20)]) hk dX12_solves_444 rfl rfl ic_1 (fun _ => rfl) (fun x20 => ?_)
                          refine vv_goto 394 hk dX12_solves_447 rfl ?_
                          exact vv_le (ll_s rfl (ll_n (ll_s rfl (ll_s rfl (ll_s rfl (ll_n (ll_s rfl (ll_n (ll_s rfl ll_0))))))))) (hkl394 (x20, σ19))
        · skip
          refine vv_lp (fun t21 => (t21.2, 192, [some (rf G 86), none, some (.int t21.1), none, none, none, none, none, none], [])) (fun kl192 hkl192 t21 => ?_) FU ((0 : Int32), t4)
          refine vv_iload_n (i := 2) 193 hk dX12_solves_192 rfl rfl rfl ?_
          refine vv_aload_n (i := 0) 194 hk dX12_solves_193 rfl rfl rfl ?_
          refine vv_getI 197 hk he dX12_solves_194 rfl la_86 rfl ci_12 rfl fl_12_214 sd_86 ?_
          refine vv_icmp_ge 330 200 hk dX12_solves_197 rfl rfl ?_ ?_
          · skip
            exact vv_le (ll_s rfl (ll_n (ll_n (ll_n (ll_n (ll_n (ll_n (ll_n (ll_n ll_0))))))))) (hk330 t21.2)
          · skip
            refine vv_aload_n (i := 0) 201 hk dX12_solves_200 rfl rfl rfl ?_
            refine vv_getR 204 hk dX12_solves_201 rfl la_86 rfl ci_12 rfl fl_12_25 ?_
            refine vv_iload_n (i := 2) 205 hk dX12_solves_204 rfl rfl rfl ?_
            refine vv_iald 206 hk he dX12_solves_205 rfl la_92 sd_92 (fun v22 => ?_)
            refine vv_istore_n (i := 3) 207 [some (rf G 86), none, some (.int t21.1), some (.int v22), none, none, none, none, none] hk dX12_solves_206 rfl rfl rfl rfl ?_
            refine vv_aload_n (i := 0) 208 hk dX12_solves_207 rfl rfl rfl ?_
            refine vv_getR 211 hk dX12_solves_208 rfl la_86 rfl ci_12 rfl fl_12_28 ?_
            refine vv_iload_n (i := 2) 212 hk dX12_solves_211 rfl rfl rfl ?_
            refine vv_iald 213 hk he dX12_solves_212 rfl la_93 sd_93 (fun v23 => ?_)
            refine vv_istore 215 [some (rf G 86), none, some (.int t21.1), some (.int v22), some (.int v23), none, none, none, none] hk dX12_solves_213 rfl rfl rfl ?_
            refine vv_aload_n (i := 0) 216 hk dX12_solves_215 rfl rfl rfl ?_
            refine vv_getR 219 hk dX12_solves_216 rfl la_86 rfl ci_12 rfl fl_12_61 ?_
            refine vv_iload_n (i := 2) 220 hk dX12_solves_219 rfl rfl rfl ?_
            refine vv_zald 221 hk he dX12_solves_220 rfl la_104 sd_104 (fun v24 => ?_)
            refine vv_jn (fun t25 => (t25, 324, [some (rf G 86), none, some (.int t21.1), none, none, none, none, none, none], [])) (fun t25 => ?_) (fun k324 hk324 => ?_)
            · skip
              refine vv_iinc 327 (fun x26 => [some (rf G 86), none, some (.int x26), none, none, none, none, none, none]) hk dX12_solves_324 rfl rfl ic_1 (fun _ => rfl) (fun x26 => ?_)
              refine vv_goto 192 hk dX12_solves_327 rfl ?_
              exact vv_le (ll_s rfl (ll_n (ll_s rfl (ll_n (ll_n (ll_n (ll_n (ll_n (ll_n ll_0))))))))) (hkl192 (x26, t25))
            · skip
              refine vv_if_eq 324 224 hk dX12_solves_221 rfl rfl ?_ ?_
              · skip
                exact vv_le (ll_s rfl (ll_n (ll_s rfl (ll_n (ll_n (ll_n (ll_n (ll_n (ll_n ll_0))))))))) (hk324 t21.2)
              · skip
                refine vv_aload_n (i := 0) 225 hk dX12_solves_224 rfl rfl rfl ?_
                refine vv_getR 228 hk dX12_solves_225 rfl la_86 rfl ci_12 rfl fl_12_144 ?_
                refine vv_iload_n (i := 3) 229 hk dX12_solves_228 rfl rfl rfl ?_
                refine vv_zald 230 hk he dX12_solves_229 rfl la_131 sd_131 (fun v27 => ?_)
                refine vv_if_eq 236 233 hk dX12_solves_230 rfl rfl ?_ ?_
                · skip
                  refine vv_aload_n (i := 0) 237 hk dX12_solves_236 rfl rfl rfl ?_
                  refine vv_getR 240 hk dX12_solves_237 rfl la_86 rfl ci_12 rfl fl_12_134 ?_
                  refine vv_bipush 242 hk dX12_solves_240 rfl bp_6 ?_
                  refine vv_iload_n (i := 3) 243 hk dX12_solves_242 rfl rfl rfl ?_
                  refine vv_imul 244 hk dX12_solves_243 rfl ?_
                  refine vv_iload_n (i := 3) 245 hk dX12_solves_244 rfl rfl rfl ?_
                  refine vv_iadd 246 hk dX12_solves_245 rfl ?_
                  refine vv_dup2 247 hk dX12_solves_246 rfl rfl rfl ?_
                  refine vv_lald 248 hk he dX12_solves_247 rfl la_128 sd_128 (fun v28 => ?_)
                  refine vv_aload_n (i := 0) 249 hk dX12_solves_248 rfl rfl rfl ?_
                  refine vv_getR 252 hk dX12_solves_249 rfl la_86 rfl ci_12 rfl fl_12_31 ?_
                  refine vv_iload_n (i := 2) 253 hk dX12_solves_252 rfl rfl rfl ?_
                  refine vv_iald 254 hk he dX12_solves_253 rfl la_94 sd_94 (fun v29 => ?_)
                  refine vv_i2l 255 hk dX12_solves_254 rfl ?_
                  refine vv_ladd 256 hk dX12_solves_255 rfl ?_
                  refine vv_last 257 hk he dX12_solves_256 rfl la_128 sd_128 (fun σ30 => ?_)
                  refine vv_aload_n (i := 0) 258 hk dX12_solves_257 rfl rfl rfl ?_
                  refine vv_getR 261 hk dX12_solves_258 rfl la_86 rfl ci_12 rfl fl_12_134 ?_
                  refine vv_bipush 263 hk dX12_solves_261 rfl bp_6 ?_
                  refine vv_iload_n (i := 3) 264 hk dX12_solves_263 rfl rfl rfl ?_
                  refine vv_imul 265 hk dX12_solves_264 rfl ?_
                  refine vv_iload 267 hk dX12_solves_265 rfl rfl ?_
                  refine vv_iadd 268 hk dX12_solves_267 rfl ?_
                  refine vv_dup2 269 hk dX12_solves_268 rfl rfl rfl ?_
                  refine vv_lald 270 hk he dX12_solves_269 rfl la_128 sd_128 (fun v31 => ?_)
                  refine vv_aload_n (i := 0) 271 hk dX12_solves_270 rfl rfl rfl ?_
                  refine vv_getR 274 hk dX12_solves_271 rfl la_86 rfl ci_12 rfl fl_12_31 ?_
                  refine vv_iload_n (i := 2) 275 hk dX12_solves_274 rfl rfl rfl ?_
                  refine vv_iald 276 hk he dX12_solves_275 rfl la_94 sd_94 (fun v32 => ?_)
                  refine vv_i2l 277 hk dX12_solves_276 rfl ?_
                  refine vv_lsub 278 hk dX12_solves_277 rfl ?_
                  refine vv_last 279 hk he dX12_solves_278 rfl la_128 sd_128 (fun σ33 => ?_)
                  refine vv_aload_n (i := 0) 280 hk dX12_solves_279 rfl rfl rfl ?_
                  refine vv_getR 283 hk dX12_solves_280 rfl la_86 rfl ci_12 rfl fl_12_134 ?_
                  refine vv_bipush 285 hk dX12_solves_283 rfl bp_6 ?_
                  refine vv_iload 287 hk dX12_solves_285 rfl rfl ?_
                  refine vv_imul 288 hk dX12_solves_287 rfl ?_
                  refine vv_iload 290 hk dX12_solves_288 rfl rfl ?_
                  refine vv_iadd 291 hk dX12_solves_290 rfl ?_
                  refine vv_dup2 292 hk dX12_solves_291 rfl rfl rfl ?_
                  refine vv_lald 293 hk he dX12_solves_292 rfl la_128 sd_128 (fun v34 => ?_)
                  refine vv_aload_n (i := 0) 294 hk dX12_solves_293 rfl rfl rfl ?_
                  refine vv_getR 297 hk dX12_solves_294 rfl la_86 rfl ci_12 rfl fl_12_31 ?_
                  refine vv_iload_n (i := 2) 298 hk dX12_solves_297 rfl rfl rfl ?_
                  refine vv_iald 299 hk he dX12_solves_298 rfl la_94 sd_94 (fun v35 => ?_)
                  refine vv_i2l 300 hk dX12_solves_299 rfl ?_
                  refine vv_ladd 301 hk dX12_solves_300 rfl ?_
                  refine vv_last 302 hk he dX12_solves_301 rfl la_128 sd_128 (fun σ36 => ?_)
                  refine vv_aload_n (i := 0) 303 hk dX12_solves_302 rfl rfl rfl ?_
                  refine vv_getR 306 hk dX12_solves_303 rfl la_86 rfl ci_12 rfl fl_12_134 ?_
                  refine vv_bipush 308 hk dX12_solves_306 rfl bp_6 ?_
                  refine vv_iload 310 hk dX12_solves_308 rfl rfl ?_
                  refine vv_imul 311 hk dX12_solves_310 rfl ?_
                  refine vv_iload_n (i := 3) 312 hk dX12_solves_311 rfl rfl rfl ?_
                  refine vv_iadd 313 hk dX12_solves_312 rfl ?_
                  refine vv_dup2 314 hk dX12_solves_313 rfl rfl rfl ?_
                  refine vv_lald 315 hk he dX12_solves_314 rfl la_128 sd_128 (fun v37 => ?_)
                  refine vv_aload_n (i := 0) 316 hk dX12_solves_315 rfl rfl rfl ?_
                  refine vv_getR 319 hk dX12_solves_316 rfl la_86 rfl ci_12 rfl fl_12_31 ?_
                  refine vv_iload_n (i := 2) 320 hk dX12_solves_319 rfl rfl rfl ?_
                  refine vv_iald 321 hk he dX12_solves_320 rfl la_94 sd_94 (fun v38 => ?_)
                  refine vv_i2l 322 hk dX12_solves_321 rfl ?_
                  refine vv_lsub 323 hk dX12_solves_322 rfl ?_
                  refine vv_last 324 hk he dX12_solves_323 rfl la_128 sd_128 (fun σ39 => ?_)
                  exact vv_le (ll_s rfl (ll_n (ll_s rfl (ll_n (ll_n (ll_n (ll_n (ll_n (ll_n ll_0))))))))) (hk324 σ39)
                · skip
                  refine vv_goto 324 hk dX12_solves_233 rfl ?_
                  exact vv_le (ll_s rfl (ll_n (ll_s rfl (ll_n (ll_n (ll_n (ll_n (ll_n (ll_n ll_0))))))))) (hk324 t21.2)
      · skip
        refine vv_lp (fun t40 => (t40.2, 110, [some (rf G 86), some (.int a1), some (.int t40.1), none, none, none, none, none, none], [])) (fun kl110 hkl110 t40 => ?_) FU ((0 : Int32), t3)
        refine vv_iload_n (i := 2) 111 hk dX12_solves_110 rfl rfl rfl ?_
        refine vv_aload_n (i := 0) 112 hk dX12_solves_111 rfl rfl rfl ?_
        refine vv_getI 115 hk he dX12_solves_112 rfl la_86 rfl ci_12 rfl fl_12_210 sd_86 ?_
        refine vv_icmp_ge 190 118 hk dX12_solves_115 rfl rfl ?_ ?_
        · skip
          exact vv_le (ll_s rfl (ll_n (ll_n (ll_n (ll_n (ll_n (ll_n (ll_n (ll_n ll_0))))))))) (hk190 t40.2)
        · skip
          refine vv_aload_n (i := 0) 119 hk dX12_solves_118 rfl rfl rfl ?_
          refine vv_getR 122 hk dX12_solves_119 rfl la_86 rfl ci_12 rfl fl_12_134 ?_
          refine vv_bipush 124 hk dX12_solves_122 rfl bp_6 ?_
          refine vv_iload_n (i := 2) 125 hk dX12_solves_124 rfl rfl rfl ?_
          refine vv_imul 126 hk dX12_solves_125 rfl ?_
          refine vv_iload_n (i := 2) 127 hk dX12_solves_126 rfl rfl rfl ?_
          refine vv_iadd 128 hk dX12_solves_127 rfl ?_
          refine vv_aload_n (i := 0) 129 hk dX12_solves_128 rfl rfl rfl ?_
          refine vv_getR 132 hk dX12_solves_129 rfl la_86 rfl ci_12 rfl fl_12_144 ?_
          refine vv_iload_n (i := 2) 133 hk dX12_solves_132 rfl rfl rfl ?_
          refine vv_zald 134 hk he dX12_solves_133 rfl la_131 sd_131 (fun v41 => ?_)
          refine vv_jn (fun t42 => (t40.2, 148, [some (rf G 86), some (.int a1), some (.int t40.1), none, none, none, none, none, none], [(.long t42), (.int (((6 : Int32) * t40.1) + t40.1)), (rf G 128)])) (fun t42 => ?_) (fun k148 hk148 => ?_)
          · skip
            refine vv_last 149 hk he dX12_solves_148 rfl la_128 sd_128 (fun σ43 => ?_)
            refine vv_aload_n (i := 0) 150 hk dX12_solves_149 rfl rfl rfl ?_
            refine vv_getR 153 hk dX12_solves_150 rfl la_86 rfl ci_12 rfl fl_12_134 ?_
            refine vv_bipush 155 hk dX12_solves_153 rfl bp_6 ?_
            refine vv_iload_n (i := 2) 156 hk dX12_solves_155 rfl rfl rfl ?_
            refine vv_imul 157 hk dX12_solves_156 rfl ?_
            refine vv_iconst 158 hk dX12_solves_157 rfl ic_5 ?_
            refine vv_iadd 159 hk dX12_solves_158 rfl ?_
            refine vv_aload_n (i := 0) 160 hk dX12_solves_159 rfl rfl rfl ?_
            refine vv_getR 163 hk dX12_solves_160 rfl la_86 rfl ci_12 rfl fl_12_144 ?_
            refine vv_iload_n (i := 2) 164 hk dX12_solves_163 rfl rfl rfl ?_
            refine vv_zald 165 hk he dX12_solves_164 rfl la_131 sd_131 (fun v44 => ?_)
            refine vv_jn (fun t45 => (σ43, 183, [some (rf G 86), some (.int a1), some (.int t40.1), none, none, none, none, none, none], [(.long t45), (.int (((6 : Int32) * t40.1) + (5 : Int32))), (rf G 128)])) (fun t45 => ?_) (fun k183 hk183 => ?_)
            · skip
              refine vv_last 184 hk he dX12_solves_183 rfl la_128 sd_128 (fun σ46 => ?_)
              refine vv_iinc 187 (fun x47 => [some (rf G 86), some (.int a1), some (.int x47), none, none, none, none, none, none]) hk dX12_solves_184 rfl rfl ic_1 (fun _ => rfl) (fun x47 => ?_)
              refine vv_goto 110 hk dX12_solves_187 rfl ?_
              exact vv_le (ll_s rfl (ll_s rfl (ll_s rfl (ll_n (ll_n (ll_n (ll_n (ll_n (ll_n ll_0))))))))) (hkl110 (x47, σ46))
            · skip
              refine vv_if_eq 172 168 hk dX12_solves_165 rfl rfl ?_ ?_
              · skip
                refine vv_aload_n (i := 0) 173 hk dX12_solves_172 rfl rfl rfl ?_
                refine vv_getR 176 hk dX12_solves_173 rfl la_86 rfl ci_12 rfl fl_12_43 ?_
                refine vv_iconst 177 hk dX12_solves_176 rfl ic_3 ?_
                refine vv_iload_n (i := 2) 178 hk dX12_solves_177 rfl rfl rfl ?_
                refine vv_imul 179 hk dX12_solves_178 rfl ?_
                refine vv_iload_n (i := 1) 180 hk dX12_solves_179 rfl rfl rfl ?_
                refine vv_iadd 181 hk dX12_solves_180 rfl ?_
                refine vv_iald 182 hk he dX12_solves_181 rfl la_98 sd_98 (fun v48 => ?_)
                refine vv_i2l 183 hk dX12_solves_182 rfl ?_
                exact vv_le (ll_s rfl (ll_s rfl (ll_s rfl (ll_n (ll_n (ll_n (ll_n (ll_n (ll_n ll_0))))))))) (hk183 v48.toInt64)
              · skip
                refine vv_lconst 169 hk dX12_solves_168 rfl lc_0 ?_
                refine vv_goto 183 hk dX12_solves_169 rfl ?_
                exact vv_le (ll_s rfl (ll_s rfl (ll_s rfl (ll_n (ll_n (ll_n (ll_n (ll_n (ll_n ll_0))))))))) (hk183 (0 : Int64))
          · skip
            refine vv_if_eq 141 137 hk dX12_solves_134 rfl rfl ?_ ?_
            · skip
              refine vv_aload_n (i := 0) 142 hk dX12_solves_141 rfl rfl rfl ?_
              refine vv_iload_n (i := 2) 143 hk dX12_solves_142 rfl rfl rfl ?_
              refine vv_iload_n (i := 1) 144 hk dX12_solves_143 rfl rfl rfl ?_
              refine vv_invIr (st := [(.int (((6 : Int32) * t40.1) + t40.1)), (rf G 128)]) 147 hk he dX12_solves_144 rfl ml_12_407 cf_X12_speedAt la_86 ci_12 (c_X12_speedAt G t40.1 a1 t40.2) rfl rfl rfl rfl (fun v49 => ?_)
              refine vv_i2l 148 hk dX12_solves_147 rfl ?_
              exact vv_le (ll_s rfl (ll_s rfl (ll_s rfl (ll_n (ll_n (ll_n (ll_n (ll_n (ll_n ll_0))))))))) (hk148 v49.toInt64)
            · skip
              refine vv_lconst 138 hk dX12_solves_137 rfl lc_1 ?_
              refine vv_goto 148 hk dX12_solves_138 rfl ?_
              exact vv_le (ll_s rfl (ll_s rfl (ll_s rfl (ll_n (ll_n (ll_n (ll_n (ll_n (ll_n ll_0))))))))) (hk148 (1 : Int64))
    · skip
      refine vv_lp (fun t50 => (t50.2, 89, [some (rf G 86), some (.int a1), some (.int t50.1), none, none, none, none, none, none], [])) (fun kl89 hkl89 t50 => ?_) FU ((0 : Int32), t2)
      refine vv_iload_n (i := 2) 90 hk dX12_solves_89 rfl rfl rfl ?_
      refine vv_bipush 92 hk dX12_solves_90 rfl bp_30 ?_
      refine vv_icmp_ge 108 95 hk dX12_solves_92 rfl rfl ?_ ?_
      · skip
        exact vv_le (ll_s rfl (ll_s rfl (ll_n (ll_n (ll_n (ll_n (ll_n (ll_n (ll_n ll_0))))))))) (hk108 t50.2)
      · skip
        refine vv_aload_n (i := 0) 96 hk dX12_solves_95 rfl rfl rfl ?_
        refine vv_getR 99 hk dX12_solves_96 rfl la_86 rfl ci_12 rfl fl_12_134 ?_
        refine vv_iload_n (i := 2) 100 hk dX12_solves_99 rfl rfl rfl ?_
        refine vv_lconst 101 hk dX12_solves_100 rfl lc_0 ?_
        refine vv_last 102 hk he dX12_solves_101 rfl la_128 sd_128 (fun σ51 => ?_)
        refine vv_iinc 105 (fun x52 => [some (rf G 86), some (.int a1), some (.int x52), none, none, none, none, none, none]) hk dX12_solves_102 rfl rfl ic_1 (fun _ => rfl) (fun x52 => ?_)
        refine vv_goto 89 hk dX12_solves_105 rfl ?_
        exact vv_le (ll_s rfl (ll_s rfl (ll_s rfl (ll_n (ll_n (ll_n (ll_n (ll_n (ll_n ll_0))))))))) (hkl89 (x52, σ51))
  · skip
    refine vv_lp (fun t53 => (t53.2, 6, [some (rf G 86), some (.int a1), some (.int t53.1), none, none, none, none, none, none], [])) (fun kl6 hkl6 t53 => ?_) FU ((0 : Int32), σ1)
    refine vv_iload_n (i := 2) 7 hk dX12_solves_6 rfl rfl rfl ?_
    refine vv_aload_n (i := 0) 8 hk dX12_solves_7 rfl rfl rfl ?_
    refine vv_getI 11 hk he dX12_solves_8 rfl la_86 rfl ci_12 rfl fl_12_210 sd_86 ?_
    refine vv_icmp_ge 87 14 hk dX12_solves_11 rfl rfl ?_ ?_
    · skip
      exact vv_le (ll_s rfl (ll_s rfl (ll_n (ll_n (ll_n (ll_n (ll_n (ll_n (ll_n ll_0))))))))) (hk87 t53.2)
    · skip
      refine vv_aload_n (i := 0) 15 hk dX12_solves_14 rfl rfl rfl ?_
      refine vv_getR 18 hk dX12_solves_15 rfl la_86 rfl ci_12 rfl fl_12_144 ?_
      refine vv_iload_n (i := 2) 19 hk dX12_solves_18 rfl rfl rfl ?_
      refine vv_iconst 20 hk dX12_solves_19 rfl ic_1 ?_
      refine vv_zast 21 hk he dX12_solves_20 rfl la_131 sd_131 (fun σ54 => ?_)
      refine vv_iconst 22 hk dX12_solves_21 rfl ic_0 ?_
      refine vv_istore_n (i := 3) 23 [some (rf G 86), some (.int a1), some (.int t53.1), some (.int (0 : Int32)), none, none, none, none, none] hk dX12_solves_22 rfl rfl rfl rfl ?_
      refine vv_jn (fun t55 => (t55, 81, [some (rf G 86), some (.int a1), some (.int t53.1), none, none, none, none, none, none], [])) (fun t55 => ?_) (fun k81 hk81 => ?_)
      · skip
        refine vv_iinc 84 (fun x56 => [some (rf G 86), some (.int a1), some (.int x56), none, none, none, none, none, none]) hk dX12_solves_81 rfl rfl ic_1 (fun _ => rfl) (fun x56 => ?_)
        refine vv_goto 6 hk dX12_solves_84 rfl ?_
        exact vv_le (ll_s rfl (ll_s rfl (ll_s rfl (ll_n (ll_n (ll_n (ll_n (ll_n (ll_n ll_0))))))))) (hkl6 (x56, t55))
      · skip
        refine vv_lp (fun t57 => (t57.2, 23, [some (rf G 86), some (.int a1), some (.int t53.1), some (.int t57.1), none, none, none, none, none], [])) (fun kl23 hkl23 t57 => ?_) FU ((0 : Int32), σ54)
        refine vv_iload_n (i := 3) 24 hk dX12_solves_23 rfl rfl rfl ?_
        refine vv_aload_n (i := 0) 25 hk dX12_solves_24 rfl rfl rfl ?_
        refine vv_getI 28 hk he dX12_solves_25 rfl la_86 rfl ci_12 rfl fl_12_210 sd_86 ?_
        refine vv_icmp_ge 81 31 hk dX12_solves_28 rfl rfl ?_ ?_
        · skip
          exact vv_le (ll_s rfl (ll_s rfl (ll_s rfl (ll_n (ll_n (ll_n (ll_n (ll_n (ll_n ll_0))))))))) (hk81 t57.2)
        · skip
          refine vv_aload_n (i := 0) 32 hk dX12_solves_31 rfl rfl rfl ?_
          refine vv_getR 35 hk dX12_solves_32 rfl la_86 rfl ci_12 rfl fl_12_144 ?_
          refine vv_iload_n (i := 2) 36 hk dX12_solves_35 rfl rfl rfl ?_
          refine vv_aload_n (i := 0) 37 hk dX12_solves_36 rfl rfl rfl ?_
          refine vv_getR 40 hk dX12_solves_37 rfl la_86 rfl ci_12 rfl fl_12_144 ?_
          refine vv_iload_n (i := 2) 41 hk dX12_solves_40 rfl rfl rfl ?_
          refine vv_zald 42 hk he dX12_solves_41 rfl la_131 sd_131 (fun v58 => ?_)
          refine vv_jn (fun t59 => (t57.2, 74, [some (rf G 86), some (.int a1), some (.int t53.1), some (.int t57.1), none, none, none, none, none], [(.int t59), (.int t53.1), (rf G 131)])) (fun t59 => ?_) (fun k74 hk74 => ?_)
          · skip
            refine vv_zast 75 hk he dX12_solves_74 rfl la_131 sd_131 (fun σ60 => ?_)
            refine vv_iinc 78 (fun x61 => [some (rf G 86), some (.int a1), some (.int t53.1), some (.int x61), none, none, none, none, none]) hk dX12_solves_75 rfl rfl ic_1 (fun _ => rfl) (fun x61 => ?_)
            refine vv_goto 23 hk dX12_solves_78 rfl ?_
            exact vv_le (ll_s rfl (ll_s rfl (ll_s rfl (ll_s rfl (ll_n (ll_n (ll_n (ll_n (ll_n ll_0))))))))) (hkl23 (x61, σ60))
          · skip
            refine vv_jn (fun t62 => (t57.2, 73, [some (rf G 86), some (.int a1), some (.int t53.1), some (.int t57.1), none, none, none, none, none], [(.int t53.1), (rf G 131)])) (fun t62 => ?_) (fun k73 hk73 => ?_)
            · skip
              refine vv_iconst 74 hk dX12_solves_73 rfl ic_0 ?_
              exact vv_le (ll_s rfl (ll_s rfl (ll_s rfl (ll_s rfl (ll_n (ll_n (ll_n (ll_n (ll_n ll_0))))))))) (hk74 (0 : Int32))
            · skip
              refine vv_if_eq 73 45 hk dX12_solves_42 rfl rfl ?_ ?_
              · skip
                exact vv_le (ll_s rfl (ll_s rfl (ll_s rfl (ll_s rfl (ll_n (ll_n (ll_n (ll_n (ll_n ll_0))))))))) (hk73 ())
              · skip
                refine vv_aload_n (i := 0) 46 hk dX12_solves_45 rfl rfl rfl ?_
                refine vv_getR 49 hk dX12_solves_46 rfl la_86 rfl ci_12 rfl fl_12_138 ?_
                refine vv_iload_n (i := 3) 50 hk dX12_solves_49 rfl rfl rfl ?_
                refine vv_iald 51 hk he dX12_solves_50 rfl la_129 sd_129 (fun v63 => ?_)
                refine vv_aload_n (i := 0) 52 hk dX12_solves_51 rfl rfl rfl ?_
                refine vv_getR 55 hk dX12_solves_52 rfl la_86 rfl ci_12 rfl fl_12_138 ?_
                refine vv_iload_n (i := 2) 56 hk dX12_solves_55 rfl rfl rfl ?_
                refine vv_iald 57 hk he dX12_solves_56 rfl la_129 sd_129 (fun v64 => ?_)
                refine vv_jn (fun t65 => (t57.2, 69, [some (rf G 86), some (.int a1), some (.int t53.1), some (.int t57.1), none, none, none, none, none], [(.int t53.1), (rf G 131)])) (fun t65 => ?_) (fun k69 hk69 => ?_)
                · skip
                  refine vv_iconst 70 hk dX12_solves_69 rfl ic_1 ?_
                  refine vv_goto 74 hk dX12_solves_70 rfl ?_
                  exact vv_le (ll_s rfl (ll_s rfl (ll_s rfl (ll_s rfl (ll_n (ll_n (ll_n (ll_n (ll_n ll_0))))))))) (hk74 (1 : Int32))
                · skip
                  refine vv_icmp_ne 69 60 hk dX12_solves_57 rfl rfl ?_ ?_
                  · skip
                    refine vv_aload_n (i := 0) 61 hk dX12_solves_60 rfl rfl rfl ?_
                    refine vv_iload_n (i := 3) 62 hk dX12_solves_61 rfl rfl rfl ?_
                    refine vv_iload_n (i := 1) 63 hk dX12_solves_62 rfl rfl rfl ?_
                    refine vv_invIr (st := [(.int t53.1), (rf G 131)]) 66 hk he dX12_solves_63 rfl ml_12_407 cf_X12_speedAt la_86 ci_12 (c_X12_speedAt G t57.1 a1 t57.2) rfl rfl rfl rfl (fun v66 => ?_)
                    refine vv_if_ne 73 69 hk dX12_solves_66 rfl rfl ?_ ?_
                    · skip
                      exact vv_le (ll_s rfl (ll_s rfl (ll_s rfl (ll_s rfl (ll_n (ll_n (ll_n (ll_n (ll_n ll_0))))))))) (hk69 ())
                    · skip
                      exact vv_le (ll_s rfl (ll_s rfl (ll_s rfl (ll_s rfl (ll_n (ll_n (ll_n (ll_n (ll_n ll_0))))))))) (hk73 ())
                  · skip
                    exact vv_le (ll_s rfl (ll_s rfl (ll_s rfl (ll_s rfl (ll_n (ll_n (ll_n (ll_n (ll_n ll_0))))))))) (hk69 ())
theorem c_X12_holdsDown (G : GT) (a1 : Int32) (a2 : Int32) (σ : Hp) : CtI G false yX12_holdsDown cX12_holdsDown 8 (some .boolean) 3 [(rf G 86), (.int a1), (.int a2)] (f_X12_holdsDown a1 a2 σ) σ := by
  refine ctZ (L0 := [some (rf G 86), some (.int a1), some (.int a2), none, none, none, none, none]) (by decide +kernel) rfl rfl rfl (fun κ hk he hret => ?_)
  have hk : KO G κ cX12_holdsDown RX12 3 := hk
  refine vv_iconst 1 hk dX12_holdsDown_0 rfl ic_0 ?_
  refine vv_istore_n (i := 3) 2 [some (rf G 86), some (.int a1), some (.int a2), some (.int (0 : Int32)), none, none, none, none] hk dX12_holdsDown_1 rfl rfl rfl rfl ?_
  refine vv_jn (fun t1 => (t1, 20, [some (rf G 86), some (.int a1), some (.int a2), none, none, none, none, none], [])) (fun t1 => ?_) (fun k20 hk20 => ?_)
  · skip
    refine vv_iconst 21 hk dX12_holdsDown_20 rfl ic_0 ?_
    refine vv_istore_n (i := 3) 22 [some (rf G 86), some (.int a1), some (.int a2), some (.int (0 : Int32)), none, none, none, none] hk dX12_holdsDown_21 rfl rfl rfl rfl ?_
    refine vv_jn (fun t2 => (t2, 62, [some (rf G 86), none, some (.int a2), none, none, none, none, none], [])) (fun t2 => ?_) (fun k62 hk62 => ?_)
    · skip
      refine vv_aload_n (i := 0) 63 hk dX12_holdsDown_62 rfl rfl rfl ?_
      refine vv_iconst 64 hk dX12_holdsDown_63 rfl ic_0 ?_
      refine vv_invV (st := []) 67 hk he dX12_holdsDown_64 rfl ml_12_413 cf_X12_solves la_86 ci_12 (c_X12_solves G (0 : Int32) t2) rfl rfl rfl rfl (fun σ3 => ?_)
      refine vv_iconst 68 hk dX12_holdsDown_67 rfl ic_0 ?_
      refine vv_istore_n (i := 3) 69 [some (rf G 86), none, some (.int a2), some (.int (0 : Int32)), none, none, none, none] hk dX12_holdsDown_68 rfl rfl rfl rfl ?_
      refine vv_jn (fun t4 => (σ3, 145, [some (rf G 86), none, none, none, none, none, none, none], [])) (fun t4 => ?_) (fun k145 hk145 => ?_)
      · skip
        refine vv_goto 159 hk dX12_holdsDown_145 rfl ?_
        refine vv_iconst 160 hk dX12_holdsDown_159 rfl ic_0 ?_
        exact hret _ _ _ _ dX12_holdsDown_160
      · skip
        refine vv_lp (fun t5 => (σ3, 69, [some (rf G 86), none, some (.int a2), some (.int t5), none, none, none, none], [])) (fun kl69 hkl69 t5 => ?_) FU (0 : Int32)
        refine vv_iload_n (i := 3) 70 hk dX12_holdsDown_69 rfl rfl rfl ?_
        refine vv_aload_n (i := 0) 71 hk dX12_holdsDown_70 rfl rfl rfl ?_
        refine vv_getI 74 hk he dX12_holdsDown_71 rfl la_86 rfl ci_12 rfl fl_12_210 sd_86 ?_
        refine vv_icmp_ge 167 77 hk dX12_holdsDown_74 rfl rfl ?_ ?_
        · skip
          refine vv_iconst 168 hk dX12_holdsDown_167 rfl ic_1 ?_
          exact hret _ _ _ _ dX12_holdsDown_168
        · skip
          refine vv_aload_n (i := 0) 78 hk dX12_holdsDown_77 rfl rfl rfl ?_
          refine vv_iload_n (i := 3) 79 hk dX12_holdsDown_78 rfl rfl rfl ?_
          refine vv_invIr (st := []) 82 hk he dX12_holdsDown_79 rfl ml_12_462 cf_X12_isLeakedInto la_86 ci_12 (c_X12_isLeakedInto G t5 σ3) rfl rfl rfl rfl (fun v6 => ?_)
          refine vv_jn (fun t7 => (σ3, 161, [some (rf G 86), none, some (.int a2), some (.int t5), none, none, none, none], [])) (fun t7 => ?_) (fun k161 hk161 => ?_)
          · skip
            refine vv_iinc 164 (fun x8 => [some (rf G 86), none, some (.int a2), some (.int x8), none, none, none, none]) hk dX12_holdsDown_161 rfl rfl ic_1 (fun _ => rfl) (fun x8 => ?_)
            refine vv_goto 69 hk dX12_holdsDown_164 rfl ?_
            exact vv_le (ll_s rfl (ll_n (ll_s rfl (ll_s rfl (ll_n (ll_n (ll_n (ll_n ll_0)))))))) (hkl69 x8)
          · skip
            refine vv_if_ne 88 85 hk dX12_holdsDown_82 rfl rfl ?_ ?_
            · skip
              refine vv_goto 161 hk dX12_holdsDown_85 rfl ?_
              exact vv_le (ll_s rfl (ll_n (ll_s rfl (ll_s rfl (ll_n (ll_n (ll_n (ll_n ll_0)))))))) (hk161 ())
            · skip
              refine vv_aload_n (i := 0) 89 hk dX12_holdsDown_88 rfl rfl rfl ?_
              refine vv_getR 92 hk dX12_holdsDown_89 rfl la_86 rfl ci_12 rfl fl_12_144 ?_
              refine vv_iload_n (i := 3) 93 hk dX12_holdsDown_92 rfl rfl rfl ?_
              refine vv_zald 94 hk he dX12_holdsDown_93 rfl la_131 sd_131 (fun v9 => ?_)
              refine vv_if_eq 99 97 hk dX12_holdsDown_94 rfl rfl ?_ ?_
              · skip
                refine vv_aload_n (i := 0) 100 hk dX12_holdsDown_99 rfl rfl rfl ?_
                refine vv_getR 103 hk dX12_holdsDown_100 rfl la_86 rfl ci_12 rfl fl_12_134 ?_
                refine vv_bipush 105 hk dX12_holdsDown_103 rfl bp_6 ?_
                refine vv_iload_n (i := 3) 106 hk dX12_holdsDown_105 rfl rfl rfl ?_
                refine vv_imul 107 hk dX12_holdsDown_106 rfl ?_
                refine vv_iconst 108 hk dX12_holdsDown_107 rfl ic_5 ?_
                refine vv_iadd 109 hk dX12_holdsDown_108 rfl ?_
                refine vv_lald 110 hk he dX12_holdsDown_109 rfl la_128 sd_128 (fun v10 => ?_)
                refine vv_lstore 112 [some (rf G 86), none, some (.int a2), some (.int t5), some (.long v10), none, none, none] hk dX12_holdsDown_110 rfl rfl rfl ?_
                refine vv_aload_n (i := 0) 113 hk dX12_holdsDown_112 rfl rfl rfl ?_
                refine vv_getR 116 hk dX12_holdsDown_113 rfl la_86 rfl ci_12 rfl fl_12_134 ?_
                refine vv_bipush 118 hk dX12_holdsDown_116 rfl bp_6 ?_
                refine vv_iload_n (i := 3) 119 hk dX12_holdsDown_118 rfl rfl rfl ?_
                refine vv_imul 120 hk dX12_holdsDown_119 rfl ?_
                refine vv_iload_n (i := 3) 121 hk dX12_holdsDown_120 rfl rfl rfl ?_
                refine vv_iadd 122 hk dX12_holdsDown_121 rfl ?_
                refine vv_lald 123 hk he dX12_holdsDown_122 rfl la_128 sd_128 (fun v11 => ?_)
                refine vv_lstore 125 [some (rf G 86), none, some (.int a2), some (.int t5), some (.long v10), none, some (.long v11), none] hk dX12_holdsDown_123 rfl rfl rfl ?_
                refine vv_lload 127 hk dX12_holdsDown_125 rfl rfl ?_
                refine vv_lconst 128 hk dX12_holdsDown_127 rfl lc_0 ?_
                refine vv_lcmp 129 hk dX12_holdsDown_128 rfl ?_
                refine vv_if_ge 148 132 hk dX12_holdsDown_129 rfl rfl ?_ ?_
                · skip
                  refine vv_lload 150 hk dX12_holdsDown_148 rfl rfl ?_
                  refine vv_lload 152 hk dX12_holdsDown_150 rfl rfl ?_
                  refine vv_iload_n (i := 2) 153 hk dX12_holdsDown_152 rfl rfl rfl ?_
                  refine vv_i2l 154 hk dX12_holdsDown_153 rfl ?_
                  refine vv_lmul 155 hk dX12_holdsDown_154 rfl ?_
                  refine vv_lcmp 156 hk dX12_holdsDown_155 rfl ?_
                  refine vv_if_le 161 159 hk dX12_holdsDown_156 rfl rfl ?_ ?_
                  · skip
                    exact vv_le (ll_s rfl (ll_n (ll_s rfl (ll_s rfl (ll_n (ll_n (ll_n (ll_n ll_0)))))))) (hk161 ())
                  · skip
                    refine vv_iconst 160 hk dX12_holdsDown_159 rfl ic_0 ?_
                    exact hret _ _ _ _ dX12_holdsDown_160
                · skip
                  refine vv_lload 134 hk dX12_holdsDown_132 rfl rfl ?_
                  refine vv_lneg 135 hk dX12_holdsDown_134 rfl ?_
                  refine vv_lload 137 hk dX12_holdsDown_135 rfl rfl ?_
                  refine vv_lneg 138 hk dX12_holdsDown_137 rfl ?_
                  refine vv_iload_n (i := 2) 139 hk dX12_holdsDown_138 rfl rfl rfl ?_
                  refine vv_i2l 140 hk dX12_holdsDown_139 rfl ?_
                  refine vv_lmul 141 hk dX12_holdsDown_140 rfl ?_
                  refine vv_lcmp 142 hk dX12_holdsDown_141 rfl ?_
                  refine vv_if_le 161 145 hk dX12_holdsDown_142 rfl rfl ?_ ?_
                  · skip
                    exact vv_le (ll_s rfl (ll_n (ll_s rfl (ll_s rfl (ll_n (ll_n (ll_n (ll_n ll_0)))))))) (hk161 ())
                  · skip
                    exact vv_le (ll_s rfl (ll_n (ll_n (ll_n (ll_n (ll_n (ll_n (ll_n ll_0)))))))) (hk145 ())
              · skip
                refine vv_iconst 98 hk dX12_holdsDown_97 rfl ic_0 ?_
                exact hret _ _ _ _ dX12_holdsDown_98
    · skip
      refine vv_lp (fun t12 => (t12.2, 22, [some (rf G 86), some (.int a1), some (.int a2), some (.int t12.1), none, none, none, none], [])) (fun kl22 hkl22 t12 => ?_) FU ((0 : Int32), t1)
      refine vv_iload_n (i := 3) 23 hk dX12_holdsDown_22 rfl rfl rfl ?_
      refine vv_aload_n (i := 0) 24 hk dX12_holdsDown_23 rfl rfl rfl ?_
      refine vv_getI 27 hk he dX12_holdsDown_24 rfl la_86 rfl ci_12 rfl fl_12_459 sd_86 ?_
      refine vv_icmp_ge 62 30 hk dX12_holdsDown_27 rfl rfl ?_ ?_
      · skip
        exact vv_le (ll_s rfl (ll_n (ll_s rfl (ll_n (ll_n (ll_n (ll_n (ll_n ll_0)))))))) (hk62 t12.2)
      · skip
        refine vv_aload_n (i := 0) 31 hk dX12_holdsDown_30 rfl rfl rfl ?_
        refine vv_getR 34 hk dX12_holdsDown_31 rfl la_86 rfl ci_12 rfl fl_12_141 ?_
        refine vv_aload_n (i := 0) 35 hk dX12_holdsDown_34 rfl rfl rfl ?_
        refine vv_getR 38 hk dX12_holdsDown_35 rfl la_86 rfl ci_12 rfl fl_12_198 ?_
        refine vv_iload_n (i := 3) 39 hk dX12_holdsDown_38 rfl rfl rfl ?_
        refine vv_iald 40 hk he dX12_holdsDown_39 rfl la_149 sd_149 (fun v13 => ?_)
        refine vv_dup2 41 hk dX12_holdsDown_40 rfl rfl rfl ?_
        refine vv_iald 42 hk he dX12_holdsDown_41 rfl la_130 sd_130 (fun v14 => ?_)
        refine vv_iload_n (i := 1) 43 hk dX12_holdsDown_42 rfl rfl rfl ?_
        refine vv_iload_n (i := 3) 44 hk dX12_holdsDown_43 rfl rfl rfl ?_
        refine vv_ishr 45 hk dX12_holdsDown_44 rfl ?_
        refine vv_iconst 46 hk dX12_holdsDown_45 rfl ic_1 ?_
        refine vv_iand 47 hk dX12_holdsDown_46 rfl ?_
        refine vv_aload_n (i := 0) 48 hk dX12_holdsDown_47 rfl rfl rfl ?_
        refine vv_getR 51 hk dX12_holdsDown_48 rfl la_86 rfl ci_12 rfl fl_12_201 ?_
        refine vv_iload_n (i := 3) 52 hk dX12_holdsDown_51 rfl rfl rfl ?_
        refine vv_iald 53 hk he dX12_holdsDown_52 rfl la_150 sd_150 (fun v15 => ?_)
        refine vv_imul 54 hk dX12_holdsDown_53 rfl ?_
        refine vv_iadd 55 hk dX12_holdsDown_54 rfl ?_
        refine vv_iast 56 hk he dX12_holdsDown_55 rfl la_130 sd_130 (fun σ16 => ?_)
        refine vv_iinc 59 (fun x17 => [some (rf G 86), some (.int a1), some (.int a2), some (.int x17), none, none, none, none]) hk dX12_holdsDown_56 rfl rfl ic_1 (fun _ => rfl) (fun x17 => ?_)
        refine vv_goto 22 hk dX12_holdsDown_59 rfl ?_
        exact vv_le (ll_s rfl (ll_s rfl (ll_s rfl (ll_s rfl (ll_n (ll_n (ll_n (ll_n ll_0)))))))) (hkl22 (x17, σ16))
  · skip
    refine vv_lp (fun t18 => (t18.2, 2, [some (rf G 86), some (.int a1), some (.int a2), some (.int t18.1), none, none, none, none], [])) (fun kl2 hkl2 t18 => ?_) FU ((0 : Int32), σ)
    refine vv_iload_n (i := 3) 3 hk dX12_holdsDown_2 rfl rfl rfl ?_
    refine vv_iconst 4 hk dX12_holdsDown_3 rfl ic_5 ?_
    refine vv_icmp_ge 20 7 hk dX12_holdsDown_4 rfl rfl ?_ ?_
    · skip
      exact vv_le (ll_s rfl (ll_s rfl (ll_s rfl (ll_n (ll_n (ll_n (ll_n (ll_n ll_0)))))))) (hk20 t18.2)
    · skip
      refine vv_aload_n (i := 0) 8 hk dX12_holdsDown_7 rfl rfl rfl ?_
      refine vv_getR 11 hk dX12_holdsDown_8 rfl la_86 rfl ci_12 rfl fl_12_141 ?_
      refine vv_iload_n (i := 3) 12 hk dX12_holdsDown_11 rfl rfl rfl ?_
      refine vv_iconst 13 hk dX12_holdsDown_12 rfl ic_0 ?_
      refine vv_iast 14 hk he dX12_holdsDown_13 rfl la_130 sd_130 (fun σ19 => ?_)
      refine vv_iinc 17 (fun x20 => [some (rf G 86), some (.int a1), some (.int a2), some (.int x20), none, none, none, none]) hk dX12_holdsDown_14 rfl rfl ic_1 (fun _ => rfl) (fun x20 => ?_)
      refine vv_goto 2 hk dX12_holdsDown_17 rfl ?_
      exact vv_le (ll_s rfl (ll_s rfl (ll_s rfl (ll_s rfl (ll_n (ll_n (ll_n (ll_n ll_0)))))))) (hkl2 (x20, σ19))
theorem c_X12_hunt (G : GT) (a1 : Int32) (σ : Hp) : CtI G false yX12_hunt cX12_hunt 9 (some .int) 1 [(rf G 86), (.int a1)] (f_X12_hunt a1 σ) σ := by
  refine ctI (L0 := [some (rf G 86), some (.int a1), none, none, none, none, none, none, none]) (by decide +kernel) rfl rfl rfl (fun κ hk he hret => ?_)
  have hk : KO G κ cX12_hunt RX12 1 := hk
  refine vv_iload_n (i := 1) 1 hk dX12_hunt_0 rfl rfl rfl ?_
  refine vv_i2l 2 hk dX12_hunt_1 rfl ?_
  refine vv_lconst 3 hk dX12_hunt_2 rfl lc_0 ?_
  refine vv_ldc2 6 hk dX12_hunt_3 rfl cw_12_220 ?_
  refine vv_staIr (st := []) 9 hk he dX12_hunt_6 rfl ml_12_222 sf_X12_isIn (c_X12_isIn G a1.toInt64 (0 : Int64) (3 : Int64) σ) rfl rfl rfl rfl (fun v1 => ?_)
  refine vv_if_ne 19 12 hk dX12_hunt_9 rfl rfl ?_ ?_
  · skip
    refine vv_aload_n (i := 0) 13 hk dX12_hunt_12 rfl rfl rfl ?_
    refine vv_bipush 15 hk dX12_hunt_13 rfl bp_m2 ?_
    refine vv_invI (st := []) 18 hk he dX12_hunt_15 rfl ml_12_226 cf_X12_no la_86 ci_12 (c_X12_no G (-2 : Int32) σ) rfl rfl rfl rfl (fun v2 σ3 => ?_)
    exact hret _ _ _ _ dX12_hunt_18
  · skip
    refine vv_iconst 20 hk dX12_hunt_19 rfl ic_0 ?_
    refine vv_istore_n (i := 2) 21 [some (rf G 86), some (.int a1), some (.int (0 : Int32)), none, none, none, none, none, none] hk dX12_hunt_20 rfl rfl rfl rfl ?_
    refine vv_iconst 22 hk dX12_hunt_21 rfl ic_0 ?_
    refine vv_istore_n (i := 3) 23 [some (rf G 86), some (.int a1), some (.int (0 : Int32)), some (.int (0 : Int32)), none, none, none, none, none] hk dX12_hunt_22 rfl rfl rfl rfl ?_
    refine vv_jn (fun t4 => (t4, 42, [some (rf G 86), some (.int a1), some (.int (0 : Int32)), none, none, none, none, none, none], [])) (fun t4 => ?_) (fun k42 hk42 => ?_)
    · skip
      refine vv_iconst 43 hk dX12_hunt_42 rfl ic_0 ?_
      refine vv_istore_n (i := 3) 44 [some (rf G 86), some (.int a1), some (.int (0 : Int32)), some (.int (0 : Int32)), none, none, none, none, none] hk dX12_hunt_43 rfl rfl rfl rfl ?_
      refine vv_jn (fun t5 => (t5.2, 111, [some (rf G 86), some (.int a1), some (.int t5.1), none, none, none, none, none, none], [])) (fun t5 => ?_) (fun k111 hk111 => ?_)
      · skip
        refine vv_iconst 112 hk dX12_hunt_111 rfl ic_0 ?_
        refine vv_istore_n (i := 3) 113 [some (rf G 86), some (.int a1), some (.int t5.1), some (.int (0 : Int32)), none, none, none, none, none] hk dX12_hunt_112 rfl rfl rfl rfl ?_
        refine vv_iconst 114 hk dX12_hunt_113 rfl ic_0 ?_
        refine vv_istore 116 [some (rf G 86), some (.int a1), some (.int t5.1), some (.int (0 : Int32)), some (.int (0 : Int32)), none, none, none, none] hk dX12_hunt_114 rfl rfl rfl ?_
        refine vv_bipush 118 hk dX12_hunt_116 rfl bp_m9 ?_
        refine vv_istore 120 [some (rf G 86), some (.int a1), some (.int t5.1), some (.int (0 : Int32)), some (.int (0 : Int32)), some (.int (-9 : Int32)), none, none, none] hk dX12_hunt_118 rfl rfl rfl ?_
        refine vv_sipush 123 hk dX12_hunt_120 rfl sp_1000 ?_
        refine vv_istore 125 [some (rf G 86), some (.int a1), some (.int t5.1), some (.int (0 : Int32)), some (.int (0 : Int32)), some (.int (-9 : Int32)), some (.int (1000 : Int32)), none, none] hk dX12_hunt_123 rfl rfl rfl ?_
        refine vv_iconst 126 hk dX12_hunt_125 rfl ic_0 ?_
        refine vv_istore 128 [some (rf G 86), some (.int a1), some (.int t5.1), some (.int (0 : Int32)), some (.int (0 : Int32)), some (.int (-9 : Int32)), some (.int (1000 : Int32)), some (.int (0 : Int32)), none] hk dX12_hunt_126 rfl rfl rfl ?_
        refine vv_jn (fun t6 => (t5.2, 269, [some (rf G 86), some (.int a1), some (.int t5.1), some (.int t6.1), some (.int t6.2.1), some (.int t6.2.2), none, none, none], [])) (fun t6 => ?_) (fun k269 hk269 => ?_)
        · skip
          refine vv_iload_n (i := 1) 270 hk dX12_hunt_269 rfl rfl rfl ?_
          refine vv_jn (fun t7 => (t5.2, 298, [some (rf G 86), none, none, none, none, none, none, none, none], [(.int t7)])) (fun t7 => ?_) (fun k298 hk298 => ?_)
          · skip
            exact hret _ _ _ _ dX12_hunt_298
          · skip
            refine vv_if_ne 277 273 hk dX12_hunt_270 rfl rfl ?_ ?_
            · skip
              refine vv_iload_n (i := 2) 274 hk dX12_hunt_273 rfl rfl rfl ?_
              refine vv_goto 298 hk dX12_hunt_274 rfl ?_
              exact vv_le (ll_s rfl (ll_n (ll_n (ll_n (ll_n (ll_n (ll_n (ll_n (ll_n ll_0))))))))) (hk298 t5.1)
            · skip
              refine vv_iload_n (i := 1) 278 hk dX12_hunt_277 rfl rfl rfl ?_
              refine vv_iconst 279 hk dX12_hunt_278 rfl ic_1 ?_
              refine vv_icmp_ne 286 282 hk dX12_hunt_279 rfl rfl ?_ ?_
              · skip
                refine vv_iload_n (i := 3) 283 hk dX12_hunt_282 rfl rfl rfl ?_
                refine vv_goto 298 hk dX12_hunt_283 rfl ?_
                exact vv_le (ll_s rfl (ll_n (ll_n (ll_n (ll_n (ll_n (ll_n (ll_n (ll_n ll_0))))))))) (hk298 t6.1)
              · skip
                refine vv_iload_n (i := 1) 287 hk dX12_hunt_286 rfl rfl rfl ?_
                refine vv_iconst 288 hk dX12_hunt_287 rfl ic_2 ?_
                refine vv_icmp_ne 296 291 hk dX12_hunt_288 rfl rfl ?_ ?_
                · skip
                  refine vv_iload 293 hk dX12_hunt_291 rfl rfl ?_
                  refine vv_goto 298 hk dX12_hunt_293 rfl ?_
                  exact vv_le (ll_s rfl (ll_n (ll_n (ll_n (ll_n (ll_n (ll_n (ll_n (ll_n ll_0))))))))) (hk298 t6.2.1)
                · skip
                  refine vv_iload 298 hk dX12_hunt_296 rfl rfl ?_
                  exact vv_le (ll_s rfl (ll_n (ll_n (ll_n (ll_n (ll_n (ll_n (ll_n (ll_n ll_0))))))))) (hk298 t6.2.2)
        · skip
          refine vv_lp (fun t8 => (t5.2, 128, [some (rf G 86), some (.int a1), some (.int t5.1), some (.int t8.1), some (.int t8.2.1), some (.int t8.2.2.1), some (.int t8.2.2.2.1), some (.int t8.2.2.2.2), none], [])) (fun kl128 hkl128 t8 => ?_) FU ((0 : Int32), (0 : Int32), (-9 : Int32), (1000 : Int32), (0 : Int32))
          refine vv_iload 130 hk dX12_hunt_128 rfl rfl ?_
          refine vv_bipush 132 hk dX12_hunt_130 rfl bp_8 ?_
          refine vv_icmp_ge 269 135 hk dX12_hunt_132 rfl rfl ?_ ?_
          · skip
            exact vv_le (ll_s rfl (ll_s rfl (ll_s rfl (ll_s rfl (ll_s rfl (ll_s rfl (ll_n (ll_n (ll_n ll_0))))))))) (hk269 (t8.1, t8.2.1, t8.2.2.1))
          · skip
            refine vv_iload_n (i := 2) 136 hk dX12_hunt_135 rfl rfl rfl ?_
            refine vv_if_le 269 139 hk dX12_hunt_136 rfl rfl ?_ ?_
            · skip
              exact vv_le (ll_s rfl (ll_s rfl (ll_s rfl (ll_s rfl (ll_s rfl (ll_s rfl (ll_n (ll_n (ll_n ll_0))))))))) (hk269 (t8.1, t8.2.1, t8.2.2.1))
            · skip
              refine vv_iload_n (i := 3) 140 hk dX12_hunt_139 rfl rfl rfl ?_
              refine vv_aload_n (i := 0) 141 hk dX12_hunt_140 rfl rfl rfl ?_
              refine vv_getR 144 hk dX12_hunt_141 rfl la_86 rfl ci_12 rfl fl_12_192 ?_
              refine vv_iload 146 hk dX12_hunt_144 rfl rfl ?_
              refine vv_iald 147 hk he dX12_hunt_146 rfl la_147 sd_147 (fun v9 => ?_)
              refine vv_iload_n (i := 2) 148 hk dX12_hunt_147 rfl rfl rfl ?_
              refine vv_jn (fun t10 => (t5.2, 159, [some (rf G 86), some (.int a1), some (.int t5.1), none, some (.int t8.2.1), some (.int t8.2.2.1), some (.int t8.2.2.2.1), some (.int t8.2.2.2.2), none], [(.int t10), (.int t8.1)])) (fun t10 => ?_) (fun k159 hk159 => ?_)
              · skip
                refine vv_ior 160 hk dX12_hunt_159 rfl ?_
                refine vv_istore_nL (i := 3) 161 (fun x11 => [some (rf G 86), some (.int a1), some (.int t5.1), some (.int x11), some (.int t8.2.1), some (.int t8.2.2.1), some (.int t8.2.2.2.1), some (.int t8.2.2.2.2), none]) hk dX12_hunt_160 rfl rfl rfl (fun _ => rfl) (fun x11 => ?_)
                refine vv_iload 163 hk dX12_hunt_161 rfl rfl ?_
                refine vv_aload_n (i := 0) 164 hk dX12_hunt_163 rfl rfl rfl ?_
                refine vv_getR 167 hk dX12_hunt_164 rfl la_86 rfl ci_12 rfl fl_12_192 ?_
                refine vv_iload 169 hk dX12_hunt_167 rfl rfl ?_
                refine vv_iald 170 hk he dX12_hunt_169 rfl la_147 sd_147 (fun v12 => ?_)
                refine vv_jn (fun t13 => (t5.2, 181, [some (rf G 86), some (.int a1), some (.int t5.1), some (.int x11), none, some (.int t8.2.2.1), some (.int t8.2.2.2.1), some (.int t8.2.2.2.2), none], [(.int t13), (.int t8.2.1)])) (fun t13 => ?_) (fun k181 hk181 => ?_)
                · skip
                  refine vv_ior 182 hk dX12_hunt_181 rfl ?_
                  refine vv_istoreL 184 (fun x14 => [some (rf G 86), some (.int a1), some (.int t5.1), some (.int x11), some (.int x14), some (.int t8.2.2.1), some (.int t8.2.2.2.1), some (.int t8.2.2.2.2), none]) hk dX12_hunt_182 rfl rfl (fun _ => rfl) (fun x14 => ?_)
                  refine vv_aload_n (i := 0) 185 hk dX12_hunt_184 rfl rfl rfl ?_
                  refine vv_getR 188 hk dX12_hunt_185 rfl la_86 rfl ci_12 rfl fl_12_192 ?_
                  refine vv_iload 190 hk dX12_hunt_188 rfl rfl ?_
                  refine vv_iald 191 hk he dX12_hunt_190 rfl la_147 sd_147 (fun v15 => ?_)
                  refine vv_iload_n (i := 2) 192 hk dX12_hunt_191 rfl rfl rfl ?_
                  refine vv_aload_n (i := 0) 193 hk dX12_hunt_192 rfl rfl rfl ?_
                  refine vv_getR 196 hk dX12_hunt_193 rfl la_86 rfl ci_12 rfl fl_12_192 ?_
                  refine vv_iload 198 hk dX12_hunt_196 rfl rfl ?_
                  refine vv_iald 199 hk he dX12_hunt_198 rfl la_147 sd_147 (fun v16 => ?_)
                  refine vv_isub 200 hk dX12_hunt_199 rfl ?_
                  refine vv_jn (fun t17 => (t5.2, 222, [some (rf G 86), some (.int a1), some (.int t5.1), some (.int x11), some (.int x14), some (.int t8.2.2.1), some (.int t8.2.2.2.1), some (.int t8.2.2.2.2), none], [(.int t17)])) (fun t17 => ?_) (fun k222 hk222 => ?_)
                  · skip
                    refine vv_istore 224 [some (rf G 86), some (.int a1), some (.int t5.1), some (.int x11), some (.int x14), some (.int t8.2.2.1), some (.int t8.2.2.2.1), some (.int t8.2.2.2.2), some (.int t17)] hk dX12_hunt_222 rfl rfl rfl ?_
                    refine vv_aload_n (i := 0) 225 hk dX12_hunt_224 rfl rfl rfl ?_
                    refine vv_getR 228 hk dX12_hunt_225 rfl la_86 rfl ci_12 rfl fl_12_192 ?_
                    refine vv_iload 230 hk dX12_hunt_228 rfl rfl ?_
                    refine vv_iald 231 hk he dX12_hunt_230 rfl la_147 sd_147 (fun v18 => ?_)
                    refine vv_jn (fun t19 => (t5.2, 263, [some (rf G 86), some (.int a1), some (.int t5.1), some (.int x11), some (.int x14), some (.int t19.1), some (.int t19.2), some (.int t8.2.2.2.2), none], [])) (fun t19 => ?_) (fun k263 hk263 => ?_)
                    · skip
                      refine vv_iinc 266 (fun x20 => [some (rf G 86), some (.int a1), some (.int t5.1), some (.int x11), some (.int x14), some (.int t19.1), some (.int t19.2), some (.int x20), none]) hk dX12_hunt_263 rfl rfl ic_1 (fun _ => rfl) (fun x20 => ?_)
                      refine vv_goto 128 hk dX12_hunt_266 rfl ?_
                      exact vv_le (ll_s rfl (ll_s rfl (ll_s rfl (ll_s rfl (ll_s rfl (ll_s rfl (ll_s rfl (ll_s rfl (ll_n ll_0))))))))) (hkl128 (x11, x14, t19.1, t19.2, x20))
                    · skip
                      refine vv_if_eq 263 234 hk dX12_hunt_231 rfl rfl ?_ ?_
                      · skip
                        exact vv_le (ll_s rfl (ll_s rfl (ll_s rfl (ll_s rfl (ll_s rfl (ll_s rfl (ll_s rfl (ll_s rfl (ll_n ll_0))))))))) (hk263 (t8.2.2.1, t8.2.2.2.1))
                      · skip
                        refine vv_aload_n (i := 0) 235 hk dX12_hunt_234 rfl rfl rfl ?_
                        refine vv_getR 238 hk dX12_hunt_235 rfl la_86 rfl ci_12 rfl fl_12_192 ?_
                        refine vv_iload 240 hk dX12_hunt_238 rfl rfl ?_
                        refine vv_iald 241 hk he dX12_hunt_240 rfl la_147 sd_147 (fun v21 => ?_)
                        refine vv_iload_n (i := 2) 242 hk dX12_hunt_241 rfl rfl rfl ?_
                        refine vv_icmp_eq 263 245 hk dX12_hunt_242 rfl rfl ?_ ?_
                        · skip
                          exact vv_le (ll_s rfl (ll_s rfl (ll_s rfl (ll_s rfl (ll_s rfl (ll_s rfl (ll_s rfl (ll_s rfl (ll_n ll_0))))))))) (hk263 (t8.2.2.1, t8.2.2.2.1))
                        · skip
                          refine vv_iload 247 hk dX12_hunt_245 rfl rfl ?_
                          refine vv_iload 249 hk dX12_hunt_247 rfl rfl ?_
                          refine vv_icmp_lt 255 252 hk dX12_hunt_249 rfl rfl ?_ ?_
                          · skip
                            refine vv_iload 257 hk dX12_hunt_255 rfl rfl ?_
                            refine vv_istore 259 [some (rf G 86), some (.int a1), some (.int t5.1), some (.int x11), some (.int x14), some (.int t8.2.2.2.2), some (.int t8.2.2.2.1), some (.int t8.2.2.2.2), some (.int t17)] hk dX12_hunt_257 rfl rfl rfl ?_
                            refine vv_iload 261 hk dX12_hunt_259 rfl rfl ?_
                            refine vv_istore 263 [some (rf G 86), some (.int a1), some (.int t5.1), some (.int x11), some (.int x14), some (.int t8.2.2.2.2), some (.int t17), some (.int t8.2.2.2.2), some (.int t17)] hk dX12_hunt_261 rfl rfl rfl ?_
                            exact vv_le (ll_s rfl (ll_s rfl (ll_s rfl (ll_s rfl (ll_s rfl (ll_s rfl (ll_s rfl (ll_s rfl (ll_n ll_0))))))))) (hk263 (t8.2.2.2.2, t17))
                          · skip
                            refine vv_goto 263 hk dX12_hunt_252 rfl ?_
                            exact vv_le (ll_s rfl (ll_s rfl (ll_s rfl (ll_s rfl (ll_s rfl (ll_s rfl (ll_s rfl (ll_s rfl (ll_n ll_0))))))))) (hk263 (t8.2.2.1, t8.2.2.2.1))
                  · skip
                    refine vv_icmp_le 213 203 hk dX12_hunt_200 rfl rfl ?_ ?_
                    · skip
                      refine vv_iload_n (i := 2) 214 hk dX12_hunt_213 rfl rfl rfl ?_
                      refine vv_aload_n (i := 0) 215 hk dX12_hunt_214 rfl rfl rfl ?_
                      refine vv_getR 218 hk dX12_hunt_215 rfl la_86 rfl ci_12 rfl fl_12_192 ?_
                      refine vv_iload 220 hk dX12_hunt_218 rfl rfl ?_
                      refine vv_iald 221 hk he dX12_hunt_220 rfl la_147 sd_147 (fun v22 => ?_)
                      refine vv_isub 222 hk dX12_hunt_221 rfl ?_
                      exact vv_le (ll_s rfl (ll_s rfl (ll_s rfl (ll_s rfl (ll_s rfl (ll_s rfl (ll_s rfl (ll_s rfl (ll_n ll_0))))))))) (hk222 (t5.1 - v22))
                    · skip
                      refine vv_aload_n (i := 0) 204 hk dX12_hunt_203 rfl rfl rfl ?_
                      refine vv_getR 207 hk dX12_hunt_204 rfl la_86 rfl ci_12 rfl fl_12_192 ?_
                      refine vv_iload 209 hk dX12_hunt_207 rfl rfl ?_
                      refine vv_iald 210 hk he dX12_hunt_209 rfl la_147 sd_147 (fun v23 => ?_)
                      refine vv_goto 222 hk dX12_hunt_210 rfl ?_
                      exact vv_le (ll_s rfl (ll_s rfl (ll_s rfl (ll_s rfl (ll_s rfl (ll_s rfl (ll_s rfl (ll_s rfl (ll_n ll_0))))))))) (hk222 v23)
                · skip
                  refine vv_if_ne 180 173 hk dX12_hunt_170 rfl rfl ?_ ?_
                  · skip
                    refine vv_iconst 174 hk dX12_hunt_173 rfl ic_1 ?_
                    refine vv_iload 176 hk dX12_hunt_174 rfl rfl ?_
                    refine vv_ishl 177 hk dX12_hunt_176 rfl ?_
                    refine vv_goto 181 hk dX12_hunt_177 rfl ?_
                    exact vv_le (ll_s rfl (ll_s rfl (ll_s rfl (ll_s rfl (ll_n (ll_s rfl (ll_s rfl (ll_s rfl (ll_n ll_0))))))))) (hk181 ((1 : Int32) <<< (t8.2.2.2.2 &&& 31)))
                  · skip
                    refine vv_iconst 181 hk dX12_hunt_180 rfl ic_0 ?_
                    exact vv_le (ll_s rfl (ll_s rfl (ll_s rfl (ll_s rfl (ll_n (ll_s rfl (ll_s rfl (ll_s rfl (ll_n ll_0))))))))) (hk181 (0 : Int32))
              · skip
                refine vv_icmp_ne 158 151 hk dX12_hunt_148 rfl rfl ?_ ?_
                · skip
                  refine vv_iconst 152 hk dX12_hunt_151 rfl ic_1 ?_
                  refine vv_iload 154 hk dX12_hunt_152 rfl rfl ?_
                  refine vv_ishl 155 hk dX12_hunt_154 rfl ?_
                  refine vv_goto 159 hk dX12_hunt_155 rfl ?_
                  exact vv_le (ll_s rfl (ll_s rfl (ll_s rfl (ll_n (ll_s rfl (ll_s rfl (ll_s rfl (ll_s rfl (ll_n ll_0))))))))) (hk159 ((1 : Int32) <<< (t8.2.2.2.2 &&& 31)))
                · skip
                  refine vv_iconst 159 hk dX12_hunt_158 rfl ic_0 ?_
                  exact vv_le (ll_s rfl (ll_s rfl (ll_s rfl (ll_n (ll_s rfl (ll_s rfl (ll_s rfl (ll_s rfl (ll_n ll_0))))))))) (hk159 (0 : Int32))
      · skip
        refine vv_lp (fun t24 => (t24.2.2, 44, [some (rf G 86), some (.int a1), some (.int t24.1), some (.int t24.2.1), none, none, none, none, none], [])) (fun kl44 hkl44 t24 => ?_) FU ((0 : Int32), (0 : Int32), t4)
        refine vv_iload_n (i := 3) 45 hk dX12_hunt_44 rfl rfl rfl ?_
        refine vv_sipush 48 hk dX12_hunt_45 rfl sp_256 ?_
        refine vv_icmp_ge 111 51 hk dX12_hunt_48 rfl rfl ?_ ?_
        · skip
          exact vv_le (ll_s rfl (ll_s rfl (ll_s rfl (ll_n (ll_n (ll_n (ll_n (ll_n (ll_n ll_0))))))))) (hk111 (t24.1, t24.2.2))
        · skip
          refine vv_iload_n (i := 3) 52 hk dX12_hunt_51 rfl rfl rfl ?_
          refine vv_staIr (st := []) 55 hk he dX12_hunt_52 rfl ml_12_391 sf_X12_bits (c_X12_bits G t24.2.1 t24.2.2) rfl rfl rfl rfl (fun v25 => ?_)
          refine vv_iconst 56 hk dX12_hunt_55 rfl ic_2 ?_
          refine vv_jn (fun t26 => (t26.2, 105, [some (rf G 86), some (.int a1), some (.int t26.1), some (.int t24.2.1), none, none, none, none, none], [])) (fun t26 => ?_) (fun k105 hk105 => ?_)
          · skip
            refine vv_iinc 108 (fun x27 => [some (rf G 86), some (.int a1), some (.int t26.1), some (.int x27), none, none, none, none, none]) hk dX12_hunt_105 rfl rfl ic_1 (fun _ => rfl) (fun x27 => ?_)
            refine vv_goto 44 hk dX12_hunt_108 rfl ?_
            exact vv_le (ll_s rfl (ll_s rfl (ll_s rfl (ll_s rfl (ll_n (ll_n (ll_n (ll_n (ll_n ll_0))))))))) (hkl44 (t26.1, x27, t26.2))
          · skip
            refine vv_icmp_gt 105 59 hk dX12_hunt_56 rfl rfl ?_ ?_
            · skip
              exact vv_le (ll_s rfl (ll_s rfl (ll_s rfl (ll_s rfl (ll_n (ll_n (ll_n (ll_n (ll_n ll_0))))))))) (hk105 (t24.1, t24.2.2))
            · skip
              refine vv_aload_n (i := 0) 60 hk dX12_hunt_59 rfl rfl rfl ?_
              refine vv_iload_n (i := 3) 61 hk dX12_hunt_60 rfl rfl rfl ?_
              refine vv_invIr (st := []) 64 hk he dX12_hunt_61 rfl ml_12_452 cf_X12_fits la_86 ci_12 (c_X12_fits G t24.2.1 t24.2.2) rfl rfl rfl rfl (fun v28 => ?_)
              refine vv_if_ne 70 67 hk dX12_hunt_64 rfl rfl ?_ ?_
              · skip
                refine vv_goto 105 hk dX12_hunt_67 rfl ?_
                exact vv_le (ll_s rfl (ll_s rfl (ll_s rfl (ll_s rfl (ll_n (ll_n (ll_n (ll_n (ll_n ll_0))))))))) (hk105 (t24.1, t24.2.2))
              · skip
                refine vv_iinc 73 (fun x29 => [some (rf G 86), some (.int a1), some (.int x29), some (.int t24.2.1), none, none, none, none, none]) hk dX12_hunt_70 rfl rfl ic_1 (fun _ => rfl) (fun x29 => ?_)
                refine vv_iconst 74 hk dX12_hunt_73 rfl ic_0 ?_
                refine vv_istore 76 [some (rf G 86), some (.int a1), some (.int x29), some (.int t24.2.1), some (.int (0 : Int32)), none, none, none, none] hk dX12_hunt_74 rfl rfl rfl ?_
                refine vv_lp (fun t30 => (t30.2, 76, [some (rf G 86), some (.int a1), some (.int x29), some (.int t24.2.1), some (.int t30.1), none, none, none, none], [])) (fun kl76 hkl76 t30 => ?_) FU ((0 : Int32), t24.2.2)
                refine vv_iload 78 hk dX12_hunt_76 rfl rfl ?_
                refine vv_bipush 80 hk dX12_hunt_78 rfl bp_8 ?_
                refine vv_icmp_ge 105 83 hk dX12_hunt_80 rfl rfl ?_ ?_
                · skip
                  exact vv_le (ll_s rfl (ll_s rfl (ll_s rfl (ll_s rfl (ll_n (ll_n (ll_n (ll_n (ll_n ll_0))))))))) (hk105 (x29, t30.2))
                · skip
                  refine vv_aload_n (i := 0) 84 hk dX12_hunt_83 rfl rfl rfl ?_
                  refine vv_getR 87 hk dX12_hunt_84 rfl la_86 rfl ci_12 rfl fl_12_192 ?_
                  refine vv_iload 89 hk dX12_hunt_87 rfl rfl ?_
                  refine vv_dup2 90 hk dX12_hunt_89 rfl rfl rfl ?_
                  refine vv_iald 91 hk he dX12_hunt_90 rfl la_147 sd_147 (fun v31 => ?_)
                  refine vv_iload_n (i := 3) 92 hk dX12_hunt_91 rfl rfl rfl ?_
                  refine vv_iload 94 hk dX12_hunt_92 rfl rfl ?_
                  refine vv_ishr 95 hk dX12_hunt_94 rfl ?_
                  refine vv_iconst 96 hk dX12_hunt_95 rfl ic_1 ?_
                  refine vv_iand 97 hk dX12_hunt_96 rfl ?_
                  refine vv_iadd 98 hk dX12_hunt_97 rfl ?_
                  refine vv_iast 99 hk he dX12_hunt_98 rfl la_147 sd_147 (fun σ32 => ?_)
                  refine vv_iinc 102 (fun x33 => [some (rf G 86), some (.int a1), some (.int x29), some (.int t24.2.1), some (.int x33), none, none, none, none]) hk dX12_hunt_99 rfl rfl ic_1 (fun _ => rfl) (fun x33 => ?_)
                  refine vv_goto 76 hk dX12_hunt_102 rfl ?_
                  exact vv_le (ll_s rfl (ll_s rfl (ll_s rfl (ll_s rfl (ll_s rfl (ll_n (ll_n (ll_n (ll_n ll_0))))))))) (hkl76 (x33, σ32))
    · skip
      refine vv_lp (fun t34 => (t34.2, 23, [some (rf G 86), some (.int a1), some (.int (0 : Int32)), some (.int t34.1), none, none, none, none, none], [])) (fun kl23 hkl23 t34 => ?_) FU ((0 : Int32), σ)
      refine vv_iload_n (i := 3) 24 hk dX12_hunt_23 rfl rfl rfl ?_
      refine vv_bipush 26 hk dX12_hunt_24 rfl bp_8 ?_
      refine vv_icmp_ge 42 29 hk dX12_hunt_26 rfl rfl ?_ ?_
      · skip
        exact vv_le (ll_s rfl (ll_s rfl (ll_s rfl (ll_n (ll_n (ll_n (ll_n (ll_n (ll_n ll_0))))))))) (hk42 t34.2)
      · skip
        refine vv_aload_n (i := 0) 30 hk dX12_hunt_29 rfl rfl rfl ?_
        refine vv_getR 33 hk dX12_hunt_30 rfl la_86 rfl ci_12 rfl fl_12_192 ?_
        refine vv_iload_n (i := 3) 34 hk dX12_hunt_33 rfl rfl rfl ?_
        refine vv_iconst 35 hk dX12_hunt_34 rfl ic_0 ?_
        refine vv_iast 36 hk he dX12_hunt_35 rfl la_147 sd_147 (fun σ35 => ?_)
        refine vv_iinc 39 (fun x36 => [some (rf G 86), some (.int a1), some (.int (0 : Int32)), some (.int x36), none, none, none, none, none]) hk dX12_hunt_36 rfl rfl ic_1 (fun _ => rfl) (fun x36 => ?_)
        refine vv_goto 23 hk dX12_hunt_39 rfl ?_
        exact vv_le (ll_s rfl (ll_s rfl (ll_s rfl (ll_s rfl (ll_n (ll_n (ll_n (ll_n (ll_n ll_0))))))))) (hkl23 (x36, σ35))
theorem c_X12_in (G : GT) (a1 : Int32) (a2 : Int32) (a3 : Int32) (σ : Hp) : CtI G false yX12_in cX12_in 4 (some .int) 2 [(rf G 86), (.int a1), (.int a2), (.int a3)] (f_X12_in a1 a2 a3 σ) σ := by
  refine ctI (L0 := [some (rf G 86), some (.int a1), some (.int a2), some (.int a3)]) (by decide +kernel) rfl rfl rfl (fun κ hk he hret => ?_)
  have hk : KO G κ cX12_in RX12 2 := hk
  refine vv_aload_n (i := 0) 1 hk dX12_in_0 rfl rfl rfl ?_
  refine vv_iload_n (i := 1) 2 hk dX12_in_1 rfl rfl rfl ?_
  refine vv_invIr (st := []) 5 hk he dX12_in_2 rfl ml_12_238 cf_X12_isRoom la_86 ci_12 (c_X12_isRoom G a1 σ) rfl rfl rfl rfl (fun v1 => ?_)
  refine vv_jn (fun t2 => (σ, 15, [some (rf G 86), none, none, none], [])) (fun t2 => ?_) (fun k15 hk15 => ?_)
  · skip
    refine vv_aload_n (i := 0) 16 hk dX12_in_15 rfl rfl rfl ?_
    refine vv_iconst 17 hk dX12_in_16 rfl ic_m1 ?_
    refine vv_invI (st := []) 20 hk he dX12_in_17 rfl ml_12_226 cf_X12_no la_86 ci_12 (c_X12_no G (-1 : Int32) σ) rfl rfl rfl rfl (fun v3 σ4 => ?_)
    exact hret _ _ _ _ dX12_in_20
  · skip
    refine vv_if_eq 15 8 hk dX12_in_5 rfl rfl ?_ ?_
    · skip
      exact vv_le (ll_s rfl (ll_n (ll_n (ll_n ll_0)))) (hk15 ())
    · skip
      refine vv_iload_n (i := 2) 9 hk dX12_in_8 rfl rfl rfl ?_
      refine vv_staIr (st := []) 12 hk he dX12_in_9 rfl ml_12_244 sf_X12_isGas (c_X12_isGas G a2 σ) rfl rfl rfl rfl (fun v5 => ?_)
      refine vv_if_ne 21 15 hk dX12_in_12 rfl rfl ?_ ?_
      · skip
        exact vv_le (ll_s rfl (ll_n (ll_n (ll_n ll_0)))) (hk15 ())
      · skip
        refine vv_iload_n (i := 3) 22 hk dX12_in_21 rfl rfl rfl ?_
        refine vv_i2l 23 hk dX12_in_22 rfl ?_
        refine vv_lconst 24 hk dX12_in_23 rfl lc_0 ?_
        refine vv_ldc2 27 hk dX12_in_24 rfl cw_12_290 ?_
        refine vv_staIr (st := []) 30 hk he dX12_in_27 rfl ml_12_222 sf_X12_isIn (c_X12_isIn G a3.toInt64 (0 : Int64) (2 : Int64) σ) rfl rfl rfl rfl (fun v6 => ?_)
        refine vv_if_ne 40 33 hk dX12_in_30 rfl rfl ?_ ?_
        · skip
          refine vv_aload_n (i := 0) 34 hk dX12_in_33 rfl rfl rfl ?_
          refine vv_bipush 36 hk dX12_in_34 rfl bp_m2 ?_
          refine vv_invI (st := []) 39 hk he dX12_in_36 rfl ml_12_226 cf_X12_no la_86 ci_12 (c_X12_no G (-2 : Int32) σ) rfl rfl rfl rfl (fun v7 σ8 => ?_)
          exact hret _ _ _ _ dX12_in_39
        · skip
          refine vv_iload_n (i := 3) 41 hk dX12_in_40 rfl rfl rfl ?_
          refine vv_jn (fun t9 => (σ, 80, [some (rf G 86), none, none, none], [(.int t9)])) (fun t9 => ?_) (fun k80 hk80 => ?_)
          · skip
            exact hret _ _ _ _ dX12_in_80
          · skip
            refine vv_if_ne 57 44 hk dX12_in_41 rfl rfl ?_ ?_
            · skip
              refine vv_aload_n (i := 0) 45 hk dX12_in_44 rfl rfl rfl ?_
              refine vv_getR 48 hk dX12_in_45 rfl la_86 rfl ci_12 rfl fl_12_46 ?_
              refine vv_iconst 49 hk dX12_in_48 rfl ic_3 ?_
              refine vv_iload_n (i := 1) 50 hk dX12_in_49 rfl rfl rfl ?_
              refine vv_imul 51 hk dX12_in_50 rfl ?_
              refine vv_iload_n (i := 2) 52 hk dX12_in_51 rfl rfl rfl ?_
              refine vv_iadd 53 hk dX12_in_52 rfl ?_
              refine vv_iald 54 hk he dX12_in_53 rfl la_99 sd_99 (fun v10 => ?_)
              refine vv_goto 80 hk dX12_in_54 rfl ?_
              exact vv_le (ll_s rfl (ll_n (ll_n (ll_n ll_0)))) (hk80 v10)
            · skip
              refine vv_iload_n (i := 3) 58 hk dX12_in_57 rfl rfl rfl ?_
              refine vv_iconst 59 hk dX12_in_58 rfl ic_1 ?_
              refine vv_icmp_ne 75 62 hk dX12_in_59 rfl rfl ?_ ?_
              · skip
                refine vv_aload_n (i := 0) 63 hk dX12_in_62 rfl rfl rfl ?_
                refine vv_getR 66 hk dX12_in_63 rfl la_86 rfl ci_12 rfl fl_12_49 ?_
                refine vv_iconst 67 hk dX12_in_66 rfl ic_3 ?_
                refine vv_iload_n (i := 1) 68 hk dX12_in_67 rfl rfl rfl ?_
                refine vv_imul 69 hk dX12_in_68 rfl ?_
                refine vv_iload_n (i := 2) 70 hk dX12_in_69 rfl rfl rfl ?_
                refine vv_iadd 71 hk dX12_in_70 rfl ?_
                refine vv_iald 72 hk he dX12_in_71 rfl la_100 sd_100 (fun v11 => ?_)
                refine vv_goto 80 hk dX12_in_72 rfl ?_
                exact vv_le (ll_s rfl (ll_n (ll_n (ll_n ll_0)))) (hk80 v11)
              · skip
                refine vv_aload_n (i := 0) 76 hk dX12_in_75 rfl rfl rfl ?_
                refine vv_iload_n (i := 1) 77 hk dX12_in_76 rfl rfl rfl ?_
                refine vv_invIr (st := []) 80 hk he dX12_in_77 rfl ml_12_292 cf_X12_push la_86 ci_12 (c_X12_push G a1 σ) rfl rfl rfl rfl (fun v12 => ?_)
                exact vv_le (ll_s rfl (ll_n (ll_n (ll_n ll_0)))) (hk80 v12)
theorem c_X12_late (G : GT) (a1 : Int32) (a2 : Int32) (σ : Hp) : CtI G false yX12_late cX12_late 5 (some .int) 1 [(rf G 86), (.int a1), (.int a2)] (f_X12_late a1 a2 σ) σ := by
  refine ctI (L0 := [some (rf G 86), some (.int a1), some (.int a2), none, none]) (by decide +kernel) rfl rfl rfl (fun κ hk he hret => ?_)
  have hk : KO G κ cX12_late RX12 1 := hk
  refine vv_iload_n (i := 1) 1 hk dX12_late_0 rfl rfl rfl ?_
  refine vv_i2l 2 hk dX12_late_1 rfl ?_
  refine vv_lconst 3 hk dX12_late_2 rfl lc_0 ?_
  refine vv_ldc2 6 hk dX12_late_3 rfl cw_12_430 ?_
  refine vv_staIr (st := []) 9 hk he dX12_late_6 rfl ml_12_222 sf_X12_isIn (c_X12_isIn G a1.toInt64 (0 : Int64) (7 : Int64) σ) rfl rfl rfl rfl (fun v1 => ?_)
  refine vv_if_ne 18 12 hk dX12_late_9 rfl rfl ?_ ?_
  · skip
    refine vv_aload_n (i := 0) 13 hk dX12_late_12 rfl rfl rfl ?_
    refine vv_iconst 14 hk dX12_late_13 rfl ic_m1 ?_
    refine vv_invI (st := []) 17 hk he dX12_late_14 rfl ml_12_226 cf_X12_no la_86 ci_12 (c_X12_no G (-1 : Int32) σ) rfl rfl rfl rfl (fun v2 σ3 => ?_)
    exact hret _ _ _ _ dX12_late_17
  · skip
    refine vv_iload_n (i := 2) 19 hk dX12_late_18 rfl rfl rfl ?_
    refine vv_i2l 20 hk dX12_late_19 rfl ?_
    refine vv_lconst 21 hk dX12_late_20 rfl lc_0 ?_
    refine vv_ldc2 24 hk dX12_late_21 rfl cw_12_444 ?_
    refine vv_staIr (st := []) 27 hk he dX12_late_24 rfl ml_12_232 sf_X12_out (c_X12_out G a2.toInt64 (0 : Int64) (20 : Int64) σ) rfl rfl rfl rfl (fun v4 => ?_)
    refine vv_istore_n (i := 3) 28 [some (rf G 86), some (.int a1), some (.int a2), some (.int v4), none] hk dX12_late_27 rfl rfl rfl rfl ?_
    refine vv_iload_n (i := 3) 29 hk dX12_late_28 rfl rfl rfl ?_
    refine vv_if_eq 38 32 hk dX12_late_29 rfl rfl ?_ ?_
    · skip
      refine vv_aload_n (i := 0) 39 hk dX12_late_38 rfl rfl rfl ?_
      refine vv_getR 42 hk dX12_late_39 rfl la_86 rfl ci_12 rfl fl_12_180 ?_
      refine vv_iload_n (i := 1) 43 hk dX12_late_42 rfl rfl rfl ?_
      refine vv_iald 44 hk he dX12_late_43 rfl la_143 sd_143 (fun v5 => ?_)
      refine vv_istore 46 [some (rf G 86), some (.int a1), some (.int a2), some (.int v4), some (.int v5)] hk dX12_late_44 rfl rfl rfl ?_
      refine vv_aload_n (i := 0) 47 hk dX12_late_46 rfl rfl rfl ?_
      refine vv_getR 50 hk dX12_late_47 rfl la_86 rfl ci_12 rfl fl_12_180 ?_
      refine vv_iload_n (i := 1) 51 hk dX12_late_50 rfl rfl rfl ?_
      refine vv_iload_n (i := 2) 52 hk dX12_late_51 rfl rfl rfl ?_
      refine vv_iast 53 hk he dX12_late_52 rfl la_143 sd_143 (fun σ6 => ?_)
      refine vv_iload 55 hk dX12_late_53 rfl rfl ?_
      exact hret _ _ _ _ dX12_late_55
    · skip
      refine vv_aload_n (i := 0) 33 hk dX12_late_32 rfl rfl rfl ?_
      refine vv_iload_n (i := 3) 34 hk dX12_late_33 rfl rfl rfl ?_
      refine vv_invI (st := []) 37 hk he dX12_late_34 rfl ml_12_226 cf_X12_no la_86 ci_12 (c_X12_no G v4 σ) rfl rfl rfl rfl (fun v7 σ8 => ?_)
      exact hret _ _ _ _ dX12_late_37
theorem c_X12_leak (G : GT) (a1 : Int32) (a2 : Int32) (a3 : Int32) (σ : Hp) : CtI G false yX12_leak cX12_leak 6 (some .int) 1 [(rf G 86), (.int a1), (.int a2), (.int a3)] (f_X12_leak a1 a2 a3 σ) σ := by
  refine ctI (L0 := [some (rf G 86), some (.int a1), some (.int a2), some (.int a3), none, none]) (by decide +kernel) rfl rfl rfl (fun κ hk he hret => ?_)
  have hk : KO G κ cX12_leak RX12 1 := hk
  refine vv_aload_n (i := 0) 1 hk dX12_leak_0 rfl rfl rfl ?_
  refine vv_iload_n (i := 1) 2 hk dX12_leak_1 rfl rfl rfl ?_
  refine vv_invIr (st := []) 5 hk he dX12_leak_2 rfl ml_12_238 cf_X12_isRoom la_86 ci_12 (c_X12_isRoom G a1 σ) rfl rfl rfl rfl (fun v1 => ?_)
  refine vv_jn (fun t2 => (σ, 15, [some (rf G 86), none, none, none, none, none], [])) (fun t2 => ?_) (fun k15 hk15 => ?_)
  · skip
    refine vv_aload_n (i := 0) 16 hk dX12_leak_15 rfl rfl rfl ?_
    refine vv_iconst 17 hk dX12_leak_16 rfl ic_m1 ?_
    refine vv_invI (st := []) 20 hk he dX12_leak_17 rfl ml_12_226 cf_X12_no la_86 ci_12 (c_X12_no G (-1 : Int32) σ) rfl rfl rfl rfl (fun v3 σ4 => ?_)
    exact hret _ _ _ _ dX12_leak_20
  · skip
    refine vv_if_eq 15 8 hk dX12_leak_5 rfl rfl ?_ ?_
    · skip
      exact vv_le (ll_s rfl (ll_n (ll_n (ll_n (ll_n (ll_n ll_0)))))) (hk15 ())
    · skip
      refine vv_iload_n (i := 2) 9 hk dX12_leak_8 rfl rfl rfl ?_
      refine vv_staIr (st := []) 12 hk he dX12_leak_9 rfl ml_12_244 sf_X12_isGas (c_X12_isGas G a2 σ) rfl rfl rfl rfl (fun v5 => ?_)
      refine vv_if_ne 21 15 hk dX12_leak_12 rfl rfl ?_ ?_
      · skip
        exact vv_le (ll_s rfl (ll_n (ll_n (ll_n (ll_n (ll_n ll_0)))))) (hk15 ())
      · skip
        refine vv_iload_n (i := 3) 22 hk dX12_leak_21 rfl rfl rfl ?_
        refine vv_i2l 23 hk dX12_leak_22 rfl ?_
        refine vv_lconst 24 hk dX12_leak_23 rfl lc_0 ?_
        refine vv_ldc2 27 hk dX12_leak_24 rfl cw_12_253 ?_
        refine vv_staIr (st := []) 30 hk he dX12_leak_27 rfl ml_12_232 sf_X12_out (c_X12_out G a3.toInt64 (0 : Int64) (999 : Int64) σ) rfl rfl rfl rfl (fun v6 => ?_)
        refine vv_istore 32 [some (rf G 86), some (.int a1), some (.int a2), some (.int a3), some (.int v6), none] hk dX12_leak_30 rfl rfl rfl ?_
        refine vv_iload 34 hk dX12_leak_32 rfl rfl ?_
        refine vv_if_eq 44 37 hk dX12_leak_34 rfl rfl ?_ ?_
        · skip
          refine vv_aload_n (i := 0) 45 hk dX12_leak_44 rfl rfl rfl ?_
          refine vv_invV (st := []) 48 hk he dX12_leak_45 rfl ml_12_235 cf_X12_forgets la_86 ci_12 (c_X12_forgets G σ) rfl rfl rfl rfl (fun σ7 => ?_)
          refine vv_aload_n (i := 0) 49 hk dX12_leak_48 rfl rfl rfl ?_
          refine vv_getR 52 hk dX12_leak_49 rfl la_86 rfl ci_12 rfl fl_12_43 ?_
          refine vv_iconst 53 hk dX12_leak_52 rfl ic_3 ?_
          refine vv_iload_n (i := 1) 54 hk dX12_leak_53 rfl rfl rfl ?_
          refine vv_imul 55 hk dX12_leak_54 rfl ?_
          refine vv_iload_n (i := 2) 56 hk dX12_leak_55 rfl rfl rfl ?_
          refine vv_iadd 57 hk dX12_leak_56 rfl ?_
          refine vv_iald 58 hk he dX12_leak_57 rfl la_98 sd_98 (fun v8 => ?_)
          refine vv_istore 60 [some (rf G 86), some (.int a1), some (.int a2), some (.int a3), some (.int v6), some (.int v8)] hk dX12_leak_58 rfl rfl rfl ?_
          refine vv_aload_n (i := 0) 61 hk dX12_leak_60 rfl rfl rfl ?_
          refine vv_getR 64 hk dX12_leak_61 rfl la_86 rfl ci_12 rfl fl_12_43 ?_
          refine vv_iconst 65 hk dX12_leak_64 rfl ic_3 ?_
          refine vv_iload_n (i := 1) 66 hk dX12_leak_65 rfl rfl rfl ?_
          refine vv_imul 67 hk dX12_leak_66 rfl ?_
          refine vv_iload_n (i := 2) 68 hk dX12_leak_67 rfl rfl rfl ?_
          refine vv_iadd 69 hk dX12_leak_68 rfl ?_
          refine vv_iload_n (i := 3) 70 hk dX12_leak_69 rfl rfl rfl ?_
          refine vv_iast 71 hk he dX12_leak_70 rfl la_98 sd_98 (fun σ9 => ?_)
          refine vv_iload 73 hk dX12_leak_71 rfl rfl ?_
          exact hret _ _ _ _ dX12_leak_73
        · skip
          refine vv_aload_n (i := 0) 38 hk dX12_leak_37 rfl rfl rfl ?_
          refine vv_iload 40 hk dX12_leak_38 rfl rfl ?_
          refine vv_invI (st := []) 43 hk he dX12_leak_40 rfl ml_12_226 cf_X12_no la_86 ci_12 (c_X12_no G v6 σ) rfl rfl rfl rfl (fun v10 σ11 => ?_)
          exact hret _ _ _ _ dX12_leak_43
theorem c_X12_left (G : GT) (a1 : Int32) (a2 : Int32) (a3 : Int32) (σ : Hp) : CtI G false yX12_left cX12_left 4 (some .int) 0 [(rf G 86), (.int a1), (.int a2), (.int a3)] (rdI (f_X12_left a1 a2 a3 σ) σ) σ := by
  refine ctIr (L0 := [some (rf G 86), some (.int a1), some (.int a2), some (.int a3)]) (by decide +kernel) rfl rfl rfl (fun κ hk he hret => ?_)
  have hk : KO G κ cX12_left RX12 0 := hk
  refine vv_aload_n (i := 0) 1 hk dX12_left_0 rfl rfl rfl ?_
  refine vv_getR 4 hk dX12_left_1 rfl la_86 rfl ci_12 rfl fl_12_171 ?_
  refine vv_iload_n (i := 1) 5 hk dX12_left_4 rfl rfl rfl ?_
  refine vv_iald 6 hk he dX12_left_5 rfl la_140 sd_140 (fun v1 => ?_)
  refine vv_iload_n (i := 2) 7 hk dX12_left_6 rfl rfl rfl ?_
  refine vv_aload_n (i := 0) 8 hk dX12_left_7 rfl rfl rfl ?_
  refine vv_getR 11 hk dX12_left_8 rfl la_86 rfl ci_12 rfl fl_12_168 ?_
  refine vv_iload_n (i := 1) 12 hk dX12_left_11 rfl rfl rfl ?_
  refine vv_iald 13 hk he dX12_left_12 rfl la_139 sd_139 (fun v2 => ?_)
  refine vv_isub 14 hk dX12_left_13 rfl ?_
  refine vv_imul 15 hk dX12_left_14 rfl ?_
  refine vv_iload_n (i := 3) 16 hk dX12_left_15 rfl rfl rfl ?_
  refine vv_iload_n (i := 2) 17 hk dX12_left_16 rfl rfl rfl ?_
  refine vv_jn (fun t3 => (σ, 34, [some (rf G 86), none, none, none], [(.int t3), (.int (v1 * (a2 - v2)))])) (fun t3 => ?_) (fun k34 hk34 => ?_)
  · skip
    refine vv_isub 35 hk dX12_left_34 rfl ?_
    exact hret _ _ _ dX12_left_35
  · skip
    refine vv_icmp_le 33 20 hk dX12_left_17 rfl rfl ?_ ?_
    · skip
      refine vv_iconst 34 hk dX12_left_33 rfl ic_0 ?_
      exact vv_le (ll_s rfl (ll_n (ll_n (ll_n ll_0)))) (hk34 (0 : Int32))
    · skip
      refine vv_aload_n (i := 0) 21 hk dX12_left_20 rfl rfl rfl ?_
      refine vv_getR 24 hk dX12_left_21 rfl la_86 rfl ci_12 rfl fl_12_174 ?_
      refine vv_iload_n (i := 1) 25 hk dX12_left_24 rfl rfl rfl ?_
      refine vv_iald 26 hk he dX12_left_25 rfl la_141 sd_141 (fun v4 => ?_)
      refine vv_iload_n (i := 3) 27 hk dX12_left_26 rfl rfl rfl ?_
      refine vv_iload_n (i := 2) 28 hk dX12_left_27 rfl rfl rfl ?_
      refine vv_isub 29 hk dX12_left_28 rfl ?_
      refine vv_imul 30 hk dX12_left_29 rfl ?_
      refine vv_goto 34 hk dX12_left_30 rfl ?_
      exact vv_le (ll_s rfl (ll_n (ll_n (ll_n ll_0)))) (hk34 (v4 * (a3 - a2)))
theorem c_X12_rests (G : GT) (a1 : Int32) (σ : Hp) : CtI G false yX12_rests cX12_rests 5 (some .int) 1 [(rf G 86), (.int a1)] (rdI (f_X12_rests a1 σ) σ) σ := by
  refine ctIr (L0 := [some (rf G 86), some (.int a1), none, none, none]) (by decide +kernel) rfl rfl rfl (fun κ hk he hret => ?_)
  have hk : KO G κ cX12_rests RX12 1 := hk
  refine vv_sipush 3 hk dX12_rests_0 rfl sp_300 ?_
  refine vv_istore_n (i := 2) 4 [some (rf G 86), some (.int a1), some (.int (300 : Int32)), none, none] hk dX12_rests_3 rfl rfl rfl rfl ?_
  refine vv_iconst 5 hk dX12_rests_4 rfl ic_0 ?_
  refine vv_istore_n (i := 3) 6 [some (rf G 86), some (.int a1), some (.int (300 : Int32)), some (.int (0 : Int32)), none] hk dX12_rests_5 rfl rfl rfl rfl ?_
  refine vv_lp (fun t1 => (σ, 6, [some (rf G 86), some (.int a1), some (.int t1.1), some (.int t1.2), none], [])) (fun kl6 hkl6 t1 => ?_) FU ((300 : Int32), (0 : Int32))
  refine vv_iload_n (i := 3) 7 hk dX12_rests_6 rfl rfl rfl ?_
  refine vv_iload_n (i := 1) 8 hk dX12_rests_7 rfl rfl rfl ?_
  refine vv_icmp_gt 70 11 hk dX12_rests_8 rfl rfl ?_ ?_
  · skip
    refine vv_iload_n (i := 2) 71 hk dX12_rests_70 rfl rfl rfl ?_
    exact hret _ _ _ dX12_rests_71
  · skip
    refine vv_aload_n (i := 0) 12 hk dX12_rests_11 rfl rfl rfl ?_
    refine vv_getR 15 hk dX12_rests_12 rfl la_86 rfl ci_12 rfl fl_12_168 ?_
    refine vv_iload_n (i := 3) 16 hk dX12_rests_15 rfl rfl rfl ?_
    refine vv_iald 17 hk he dX12_rests_16 rfl la_139 sd_139 (fun v2 => ?_)
    refine vv_istore 19 [some (rf G 86), some (.int a1), some (.int t1.1), some (.int t1.2), some (.int v2)] hk dX12_rests_17 rfl rfl rfl ?_
    refine vv_jn (fun t3 => (σ, 50, [some (rf G 86), some (.int a1), none, some (.int t1.2), some (.int t3)], [])) (fun t3 => ?_) (fun k50 hk50 => ?_)
    · skip
      refine vv_iload 52 hk dX12_rests_50 rfl rfl ?_
      refine vv_sipush 55 hk dX12_rests_52 rfl sp_300 ?_
      refine vv_icmp_le 61 58 hk dX12_rests_55 rfl rfl ?_ ?_
      · skip
        refine vv_iload 63 hk dX12_rests_61 rfl rfl ?_
        refine vv_istore_n (i := 2) 64 [some (rf G 86), some (.int a1), some (.int t3), some (.int t1.2), some (.int t3)] hk dX12_rests_63 rfl rfl rfl rfl ?_
        refine vv_iinc 67 (fun x4 => [some (rf G 86), some (.int a1), some (.int t3), some (.int x4), some (.int t3)]) hk dX12_rests_64 rfl rfl ic_1 (fun _ => rfl) (fun x4 => ?_)
        refine vv_goto 6 hk dX12_rests_67 rfl ?_
        exact vv_le (ll_s rfl (ll_s rfl (ll_s rfl (ll_s rfl (ll_n ll_0))))) (hkl6 (t3, x4))
      · skip
        refine vv_bipush 60 hk dX12_rests_58 rfl bp_m9 ?_
        exact hret _ _ _ dX12_rests_60
    · skip
      refine vv_lp (fun t5 => (σ, 19, [some (rf G 86), some (.int a1), some (.int t1.1), some (.int t1.2), some (.int t5)], [])) (fun kl19 hkl19 t5 => ?_) FU v2
      refine vv_iload 21 hk dX12_rests_19 rfl rfl ?_
      refine vv_sipush 24 hk dX12_rests_21 rfl sp_300 ?_
      refine vv_icmp_gt 50 27 hk dX12_rests_24 rfl rfl ?_ ?_
      · skip
        exact vv_le (ll_s rfl (ll_s rfl (ll_n (ll_s rfl (ll_s rfl ll_0))))) (hk50 t5)
      · skip
        refine vv_aload_n (i := 0) 28 hk dX12_rests_27 rfl rfl rfl ?_
        refine vv_iload_n (i := 3) 29 hk dX12_rests_28 rfl rfl rfl ?_
        refine vv_iload 31 hk dX12_rests_29 rfl rfl ?_
        refine vv_iload_n (i := 2) 32 hk dX12_rests_31 rfl rfl rfl ?_
        refine vv_invIr (st := []) 35 hk he dX12_rests_32 rfl ml_12_436 cf_X12_left la_86 ci_12 (c_X12_left G t1.2 t5 t1.1 σ) rfl rfl rfl rfl (fun v6 => ?_)
        refine vv_aload_n (i := 0) 36 hk dX12_rests_35 rfl rfl rfl ?_
        refine vv_getR 39 hk dX12_rests_36 rfl la_86 rfl ci_12 rfl fl_12_177 ?_
        refine vv_iload_n (i := 3) 40 hk dX12_rests_39 rfl rfl rfl ?_
        refine vv_iald 41 hk he dX12_rests_40 rfl la_142 sd_142 (fun v7 => ?_)
        refine vv_icmp_ge 50 44 hk dX12_rests_41 rfl rfl ?_ ?_
        · skip
          exact vv_le (ll_s rfl (ll_s rfl (ll_n (ll_s rfl (ll_s rfl ll_0))))) (hk50 t5)
        · skip
          refine vv_iinc 47 (fun x8 => [some (rf G 86), some (.int a1), some (.int t1.1), some (.int t1.2), some (.int x8)]) hk dX12_rests_44 rfl rfl ic_1 (fun _ => rfl) (fun x8 => ?_)
          refine vv_goto 19 hk dX12_rests_47 rfl ?_
          exact vv_le (ll_s rfl (ll_s rfl (ll_s rfl (ll_s rfl (ll_s rfl ll_0))))) (hkl19 x8)
theorem c_X12_load (G : GT) (a1 : Int32) (a2 : Int32) (σ : Hp) : CtI G false yX12_load cX12_load 6 (some .int) 2 [(rf G 86), (.int a1), (.int a2)] (f_X12_load a1 a2 σ) σ := by
  refine ctI (L0 := [some (rf G 86), some (.int a1), some (.int a2), none, none, none]) (by decide +kernel) rfl rfl rfl (fun κ hk he hret => ?_)
  have hk : KO G κ cX12_load RX12 2 := hk
  refine vv_iload_n (i := 1) 1 hk dX12_load_0 rfl rfl rfl ?_
  refine vv_i2l 2 hk dX12_load_1 rfl ?_
  refine vv_lconst 3 hk dX12_load_2 rfl lc_0 ?_
  refine vv_ldc2 6 hk dX12_load_3 rfl cw_12_220 ?_
  refine vv_staIr (st := []) 9 hk he dX12_load_6 rfl ml_12_222 sf_X12_isIn (c_X12_isIn G a1.toInt64 (0 : Int64) (3 : Int64) σ) rfl rfl rfl rfl (fun v1 => ?_)
  refine vv_if_ne 18 12 hk dX12_load_9 rfl rfl ?_ ?_
  · skip
    refine vv_aload_n (i := 0) 13 hk dX12_load_12 rfl rfl rfl ?_
    refine vv_iconst 14 hk dX12_load_13 rfl ic_m1 ?_
    refine vv_invI (st := []) 17 hk he dX12_load_14 rfl ml_12_226 cf_X12_no la_86 ci_12 (c_X12_no G (-1 : Int32) σ) rfl rfl rfl rfl (fun v2 σ3 => ?_)
    exact hret _ _ _ _ dX12_load_17
  · skip
    refine vv_iload_n (i := 2) 19 hk dX12_load_18 rfl rfl rfl ?_
    refine vv_i2l 20 hk dX12_load_19 rfl ?_
    refine vv_lconst 21 hk dX12_load_20 rfl lc_0 ?_
    refine vv_ldc2 24 hk dX12_load_21 rfl cw_12_442 ?_
    refine vv_staIr (st := []) 27 hk he dX12_load_24 rfl ml_12_232 sf_X12_out (c_X12_out G a2.toInt64 (0 : Int64) (300 : Int64) σ) rfl rfl rfl rfl (fun v4 => ?_)
    refine vv_istore_n (i := 3) 28 [some (rf G 86), some (.int a1), some (.int a2), some (.int v4), none, none] hk dX12_load_27 rfl rfl rfl rfl ?_
    refine vv_iload_n (i := 3) 29 hk dX12_load_28 rfl rfl rfl ?_
    refine vv_if_eq 38 32 hk dX12_load_29 rfl rfl ?_ ?_
    · skip
      refine vv_iload_n (i := 1) 39 hk dX12_load_38 rfl rfl rfl ?_
      refine vv_jn (fun t5 => (σ, 55, [some (rf G 86), some (.int a1), some (.int a2), none, none, none], [(.int t5)])) (fun t5 => ?_) (fun k55 hk55 => ?_)
      · skip
        refine vv_istore 57 [some (rf G 86), some (.int a1), some (.int a2), none, some (.int t5), none] hk dX12_load_55 rfl rfl rfl ?_
        refine vv_iload 59 hk dX12_load_57 rfl rfl ?_
        refine vv_if_lt 72 62 hk dX12_load_59 rfl rfl ?_ ?_
        · skip
          refine vv_bipush 74 hk dX12_load_72 rfl bp_m9 ?_
          exact hret _ _ _ _ dX12_load_74
        · skip
          refine vv_iload_n (i := 2) 63 hk dX12_load_62 rfl rfl rfl ?_
          refine vv_aload_n (i := 0) 64 hk dX12_load_63 rfl rfl rfl ?_
          refine vv_getR 67 hk dX12_load_64 rfl la_86 rfl ci_12 rfl fl_12_168 ?_
          refine vv_iload_n (i := 1) 68 hk dX12_load_67 rfl rfl rfl ?_
          refine vv_iald 69 hk he dX12_load_68 rfl la_139 sd_139 (fun v6 => ?_)
          refine vv_icmp_ge 75 72 hk dX12_load_69 rfl rfl ?_ ?_
          · skip
            refine vv_aload_n (i := 0) 76 hk dX12_load_75 rfl rfl rfl ?_
            refine vv_iload_n (i := 1) 77 hk dX12_load_76 rfl rfl rfl ?_
            refine vv_iload_n (i := 2) 78 hk dX12_load_77 rfl rfl rfl ?_
            refine vv_iload 80 hk dX12_load_78 rfl rfl ?_
            refine vv_invIr (st := []) 83 hk he dX12_load_80 rfl ml_12_436 cf_X12_left la_86 ci_12 (c_X12_left G a1 a2 t5 σ) rfl rfl rfl rfl (fun v7 => ?_)
            refine vv_istore 85 [some (rf G 86), some (.int a1), some (.int a2), none, some (.int t5), some (.int v7)] hk dX12_load_83 rfl rfl rfl ?_
            refine vv_iload 87 hk dX12_load_85 rfl rfl ?_
            refine vv_jn (fun t8 => (σ, 111, [some (rf G 86), none, none, none, none, none], [(.int t8)])) (fun t8 => ?_) (fun k111 hk111 => ?_)
            · skip
              exact hret _ _ _ _ dX12_load_111
            · skip
              refine vv_if_ge 95 90 hk dX12_load_87 rfl rfl ?_ ?_
              · skip
                refine vv_iload 97 hk dX12_load_95 rfl rfl ?_
                refine vv_sipush 100 hk dX12_load_97 rfl sp_9999 ?_
                refine vv_icmp_le 109 103 hk dX12_load_100 rfl rfl ?_ ?_
                · skip
                  refine vv_iload 111 hk dX12_load_109 rfl rfl ?_
                  exact vv_le (ll_s rfl (ll_n (ll_n (ll_n (ll_n (ll_n ll_0)))))) (hk111 v7)
                · skip
                  refine vv_sipush 106 hk dX12_load_103 rfl sp_9999 ?_
                  refine vv_goto 111 hk dX12_load_106 rfl ?_
                  exact vv_le (ll_s rfl (ll_n (ll_n (ll_n (ll_n (ll_n ll_0)))))) (hk111 (9999 : Int32))
              · skip
                refine vv_bipush 92 hk dX12_load_90 rfl bp_m9 ?_
                refine vv_goto 111 hk dX12_load_92 rfl ?_
                exact vv_le (ll_s rfl (ll_n (ll_n (ll_n (ll_n (ll_n ll_0)))))) (hk111 (-9 : Int32))
          · skip
            refine vv_bipush 74 hk dX12_load_72 rfl bp_m9 ?_
            exact hret _ _ _ _ dX12_load_74
      · skip
        refine vv_if_ne 48 42 hk dX12_load_39 rfl rfl ?_ ?_
        · skip
          refine vv_sipush 45 hk dX12_load_42 rfl sp_300 ?_
          refine vv_goto 55 hk dX12_load_45 rfl ?_
          exact vv_le (ll_s rfl (ll_s rfl (ll_s rfl (ll_n (ll_n (ll_n ll_0)))))) (hk55 (300 : Int32))
        · skip
          refine vv_aload_n (i := 0) 49 hk dX12_load_48 rfl rfl rfl ?_
          refine vv_iload_n (i := 1) 50 hk dX12_load_49 rfl rfl rfl ?_
          refine vv_iconst 51 hk dX12_load_50 rfl ic_1 ?_
          refine vv_isub 52 hk dX12_load_51 rfl ?_
          refine vv_invIr (st := []) 55 hk he dX12_load_52 rfl ml_12_439 cf_X12_rests la_86 ci_12 (c_X12_rests G (a1 - (1 : Int32)) σ) rfl rfl rfl rfl (fun v9 => ?_)
          exact vv_le (ll_s rfl (ll_s rfl (ll_s rfl (ll_n (ll_n (ll_n ll_0)))))) (hk55 v9)
    · skip
      refine vv_aload_n (i := 0) 33 hk dX12_load_32 rfl rfl rfl ?_
      refine vv_iload_n (i := 3) 34 hk dX12_load_33 rfl rfl rfl ?_
      refine vv_invI (st := []) 37 hk he dX12_load_34 rfl ml_12_226 cf_X12_no la_86 ci_12 (c_X12_no G v4 σ) rfl rfl rfl rfl (fun v10 σ11 => ?_)
      exact hret _ _ _ _ dX12_load_37
theorem c_X12_ways (G : GT) (a1 : Int32) (a2 : Int32) (σ : Hp) : CtJ G false yX12_ways cX12_ways 5 (some .long) 0 [(.int a1), (.int a2)] (rdJ (f_X12_ways a1 a2) σ) σ := by
  refine ctJr (L0 := [some (.int a1), some (.int a2), none, none, none]) (by decide +kernel) rfl rfl rfl (fun κ hk he hret => ?_)
  have hk : KO G κ cX12_ways RX12 0 := hk
  refine vv_iload_n (i := 1) 1 hk dX12_ways_0 rfl rfl rfl ?_
  refine vv_if_lt 9 4 hk dX12_ways_1 rfl rfl ?_ ?_
  · skip
    refine vv_lconst 10 hk dX12_ways_9 rfl lc_0 ?_
    exact hret _ _ _ dX12_ways_10
  · skip
    refine vv_iload_n (i := 1) 5 hk dX12_ways_4 rfl rfl rfl ?_
    refine vv_iload_n (i := 0) 6 hk dX12_ways_5 rfl rfl rfl ?_
    refine vv_icmp_le 11 9 hk dX12_ways_6 rfl rfl ?_ ?_
    · skip
      refine vv_lconst 12 hk dX12_ways_11 rfl lc_1 ?_
      refine vv_lstore_n (i := 2) 13 [some (.int a1), some (.int a2), some (.long (1 : Int64)), none, none] hk dX12_ways_12 rfl rfl rfl rfl ?_
      refine vv_iconst 14 hk dX12_ways_13 rfl ic_0 ?_
      refine vv_istore 16 [some (.int a1), some (.int a2), some (.long (1 : Int64)), none, some (.int (0 : Int32))] hk dX12_ways_14 rfl rfl rfl ?_
      refine vv_lp (fun t1 => (σ, 16, [some (.int a1), some (.int a2), some (.long t1.1), none, some (.int t1.2)], [])) (fun kl16 hkl16 t1 => ?_) FU ((1 : Int64), (0 : Int32))
      refine vv_iload 18 hk dX12_ways_16 rfl rfl ?_
      refine vv_iload_n (i := 1) 19 hk dX12_ways_18 rfl rfl rfl ?_
      refine vv_icmp_ge 42 22 hk dX12_ways_19 rfl rfl ?_ ?_
      · skip
        refine vv_lload_n (i := 2) 43 hk dX12_ways_42 rfl rfl rfl ?_
        exact hret _ _ _ dX12_ways_43
      · skip
        refine vv_lload_n (i := 2) 23 hk dX12_ways_22 rfl rfl rfl ?_
        refine vv_iload_n (i := 0) 24 hk dX12_ways_23 rfl rfl rfl ?_
        refine vv_iload 26 hk dX12_ways_24 rfl rfl ?_
        refine vv_isub 27 hk dX12_ways_26 rfl ?_
        refine vv_i2l 28 hk dX12_ways_27 rfl ?_
        refine vv_lmul 29 hk dX12_ways_28 rfl ?_
        refine vv_iload 31 hk dX12_ways_29 rfl rfl ?_
        refine vv_iconst 32 hk dX12_ways_31 rfl ic_1 ?_
        refine vv_iadd 33 hk dX12_ways_32 rfl ?_
        refine vv_i2l 34 hk dX12_ways_33 rfl ?_
        refine vv_ldiv 35 hk dX12_ways_34 rfl ?_
        refine vv_lstore_nL (i := 2) 36 (fun x2 => [some (.int a1), some (.int a2), some (.long x2), none, some (.int t1.2)]) hk dX12_ways_35 rfl rfl rfl (fun _ => rfl) (fun x2 => ?_)
        refine vv_iinc 39 (fun x3 => [some (.int a1), some (.int a2), some (.long x2), none, some (.int x3)]) hk dX12_ways_36 rfl rfl ic_1 (fun _ => rfl) (fun x3 => ?_)
        refine vv_goto 16 hk dX12_ways_39 rfl ?_
        exact vv_le (ll_s rfl (ll_s rfl (ll_s rfl (ll_n (ll_s rfl ll_0))))) (hkl16 (x2, x3))
    · skip
      refine vv_lconst 10 hk dX12_ways_9 rfl lc_0 ?_
      exact hret _ _ _ dX12_ways_10
theorem c_X12_odds (G : GT) (a1 : Int32) (a2 : Int32) (a3 : Int32) (a4 : Int32) (a5 : Int32) (σ : Hp) : CtJ G false yX12_odds cX12_odds 10 (some .long) 1 [(rf G 86), (.int a1), (.int a2), (.int a3), (.int a4), (.int a5)] (f_X12_odds a1 a2 a3 a4 a5 σ) σ := by
  refine ctJ (L0 := [some (rf G 86), some (.int a1), some (.int a2), some (.int a3), some (.int a4), some (.int a5), none, none, none, none]) (by decide +kernel) rfl rfl rfl (fun κ hk he hret => ?_)
  have hk : KO G κ cX12_odds RX12 1 := hk
  refine vv_iload 2 hk dX12_odds_0 rfl rfl ?_
  refine vv_i2l 3 hk dX12_odds_2 rfl ?_
  refine vv_lconst 4 hk dX12_odds_3 rfl lc_0 ?_
  refine vv_lconst 5 hk dX12_odds_4 rfl lc_1 ?_
  refine vv_staIr (st := []) 8 hk he dX12_odds_5 rfl ml_12_222 sf_X12_isIn (c_X12_isIn G a5.toInt64 (0 : Int64) (1 : Int64) σ) rfl rfl rfl rfl (fun v1 => ?_)
  refine vv_if_ne 19 11 hk dX12_odds_8 rfl rfl ?_ ?_
  · skip
    refine vv_aload_n (i := 0) 12 hk dX12_odds_11 rfl rfl rfl ?_
    refine vv_bipush 14 hk dX12_odds_12 rfl bp_m2 ?_
    refine vv_invI (st := []) 17 hk he dX12_odds_14 rfl ml_12_226 cf_X12_no la_86 ci_12 (c_X12_no G (-2 : Int32) σ) rfl rfl rfl rfl (fun v2 σ3 => ?_)
    refine vv_i2l 18 hk dX12_odds_17 rfl ?_
    exact hret _ _ _ _ dX12_odds_18
  · skip
    refine vv_iload_n (i := 1) 20 hk dX12_odds_19 rfl rfl rfl ?_
    refine vv_iconst 21 hk dX12_odds_20 rfl ic_1 ?_
    refine vv_jn (fun t4 => (σ, 76, [some (rf G 86), some (.int a1), some (.int a2), some (.int a3), some (.int a4), some (.int a5), none, none, none, none], [(.int t4)])) (fun t4 => ?_) (fun k76 hk76 => ?_)
    · skip
      refine vv_istore 78 [some (rf G 86), some (.int a1), some (.int a2), some (.int a3), some (.int a4), some (.int a5), some (.int t4), none, none, none] hk dX12_odds_76 rfl rfl rfl ?_
      refine vv_iload 80 hk dX12_odds_78 rfl rfl ?_
      refine vv_if_eq 91 83 hk dX12_odds_80 rfl rfl ?_ ?_
      · skip
        refine vv_iload 93 hk dX12_odds_91 rfl rfl ?_
        refine vv_iconst 94 hk dX12_odds_93 rfl ic_1 ?_
        refine vv_icmp_ne 103 97 hk dX12_odds_94 rfl rfl ?_ ?_
        · skip
          refine vv_iload_n (i := 1) 98 hk dX12_odds_97 rfl rfl rfl ?_
          refine vv_iload_n (i := 3) 99 hk dX12_odds_98 rfl rfl rfl ?_
          refine vv_staJr (st := []) 102 hk he dX12_odds_99 rfl ml_12_455 sf_X12_ways (c_X12_ways G a1 a3 σ) rfl rfl rfl rfl (fun v5 => ?_)
          exact hret _ _ _ _ dX12_odds_102
        · skip
          refine vv_lconst 104 hk dX12_odds_103 rfl lc_0 ?_
          refine vv_lstore 106 [some (rf G 86), some (.int a1), some (.int a2), some (.int a3), some (.int a4), some (.int a5), some (.int t4), some (.long (0 : Int64)), none, none] hk dX12_odds_104 rfl rfl rfl ?_
          refine vv_iconst 107 hk dX12_odds_106 rfl ic_0 ?_
          refine vv_istore 109 [some (rf G 86), some (.int a1), some (.int a2), some (.int a3), some (.int a4), some (.int a5), some (.int t4), some (.long (0 : Int64)), none, some (.int (0 : Int32))] hk dX12_odds_107 rfl rfl rfl ?_
          refine vv_le (L' := [some (rf G 86), some (.int a1), some (.int a2), some (.int a3), some (.int a4), none, none, some (.long (0 : Int64)), none, some (.int (0 : Int32))]) (ll_s rfl (ll_s rfl (ll_s rfl (ll_s rfl (ll_s rfl (ll_n (ll_n (ll_s rfl (ll_n (ll_s rfl ll_0)))))))))) ?_
          refine vv_lp (fun t6 => (σ, 109, [some (rf G 86), some (.int a1), some (.int a2), some (.int a3), some (.int a4), none, none, some (.long t6.1), none, some (.int t6.2)], [])) (fun kl109 hkl109 t6 => ?_) FU ((0 : Int64), (0 : Int32))
          refine vv_iload 111 hk dX12_odds_109 rfl rfl ?_
          refine vv_iload 113 hk dX12_odds_111 rfl rfl ?_
          refine vv_icmp_gt 144 116 hk dX12_odds_113 rfl rfl ?_ ?_
          · skip
            refine vv_lload 146 hk dX12_odds_144 rfl rfl ?_
            exact hret _ _ _ _ dX12_odds_146
          · skip
            refine vv_lload 118 hk dX12_odds_116 rfl rfl ?_
            refine vv_iload_n (i := 2) 119 hk dX12_odds_118 rfl rfl rfl ?_
            refine vv_iload 121 hk dX12_odds_119 rfl rfl ?_
            refine vv_staJr (st := [(.long t6.1)]) 124 hk he dX12_odds_121 rfl ml_12_455 sf_X12_ways (c_X12_ways G a2 t6.2 σ) rfl rfl rfl rfl (fun v7 => ?_)
            refine vv_iload_n (i := 1) 125 hk dX12_odds_124 rfl rfl rfl ?_
            refine vv_iload_n (i := 2) 126 hk dX12_odds_125 rfl rfl rfl ?_
            refine vv_isub 127 hk dX12_odds_126 rfl ?_
            refine vv_iload_n (i := 3) 128 hk dX12_odds_127 rfl rfl rfl ?_
            refine vv_iload 130 hk dX12_odds_128 rfl rfl ?_
            refine vv_isub 131 hk dX12_odds_130 rfl ?_
            refine vv_staJr (st := [(.long v7), (.long t6.1)]) 134 hk he dX12_odds_131 rfl ml_12_455 sf_X12_ways (c_X12_ways G (a1 - a2) (a3 - t6.2) σ) rfl rfl rfl rfl (fun v8 => ?_)
            refine vv_lmul 135 hk dX12_odds_134 rfl ?_
            refine vv_ladd 136 hk dX12_odds_135 rfl ?_
            refine vv_lstoreL 138 (fun x9 => [some (rf G 86), some (.int a1), some (.int a2), some (.int a3), some (.int a4), none, none, some (.long x9), none, some (.int t6.2)]) hk dX12_odds_136 rfl rfl (fun _ => rfl) (fun x9 => ?_)
            refine vv_iinc 141 (fun x10 => [some (rf G 86), some (.int a1), some (.int a2), some (.int a3), some (.int a4), none, none, some (.long x9), none, some (.int x10)]) hk dX12_odds_138 rfl rfl ic_1 (fun _ => rfl) (fun x10 => ?_)
            refine vv_goto 109 hk dX12_odds_141 rfl ?_
            exact vv_le (ll_s rfl (ll_s rfl (ll_s rfl (ll_s rfl (ll_s rfl (ll_n (ll_n (ll_s rfl (ll_n (ll_s rfl ll_0)))))))))) (hkl109 (x9, x10))
      · skip
        refine vv_aload_n (i := 0) 84 hk dX12_odds_83 rfl rfl rfl ?_
        refine vv_iload 86 hk dX12_odds_84 rfl rfl ?_
        refine vv_invI (st := []) 89 hk he dX12_odds_86 rfl ml_12_226 cf_X12_no la_86 ci_12 (c_X12_no G t4 σ) rfl rfl rfl rfl (fun v11 σ12 => ?_)
        refine vv_i2l 90 hk dX12_odds_89 rfl ?_
        exact hret _ _ _ _ dX12_odds_90
    · skip
      refine vv_jn (fun t13 => (σ, 37, [some (rf G 86), some (.int a1), some (.int a2), some (.int a3), some (.int a4), some (.int a5), none, none, none, none], [])) (fun t13 => ?_) (fun k37 hk37 => ?_)
      · skip
        refine vv_bipush 39 hk dX12_odds_37 rfl bp_m4 ?_
        refine vv_goto 76 hk dX12_odds_39 rfl ?_
        exact vv_le (ll_s rfl (ll_s rfl (ll_s rfl (ll_s rfl (ll_s rfl (ll_s rfl (ll_n (ll_n (ll_n (ll_n ll_0)))))))))) (hk76 (-4 : Int32))
      · skip
        refine vv_icmp_lt 37 24 hk dX12_odds_21 rfl rfl ?_ ?_
        · skip
          exact vv_le (ll_s rfl (ll_s rfl (ll_s rfl (ll_s rfl (ll_s rfl (ll_s rfl (ll_n (ll_n (ll_n (ll_n ll_0)))))))))) (hk37 ())
        · skip
          refine vv_iload_n (i := 2) 25 hk dX12_odds_24 rfl rfl rfl ?_
          refine vv_if_lt 37 28 hk dX12_odds_25 rfl rfl ?_ ?_
          · skip
            exact vv_le (ll_s rfl (ll_s rfl (ll_s rfl (ll_s rfl (ll_s rfl (ll_s rfl (ll_n (ll_n (ll_n (ll_n ll_0)))))))))) (hk37 ())
          · skip
            refine vv_iload_n (i := 3) 29 hk dX12_odds_28 rfl rfl rfl ?_
            refine vv_if_lt 37 32 hk dX12_odds_29 rfl rfl ?_ ?_
            · skip
              exact vv_le (ll_s rfl (ll_s rfl (ll_s rfl (ll_s rfl (ll_s rfl (ll_s rfl (ll_n (ll_n (ll_n (ll_n ll_0)))))))))) (hk37 ())
            · skip
              refine vv_iload 34 hk dX12_odds_32 rfl rfl ?_
              refine vv_if_ge 42 37 hk dX12_odds_34 rfl rfl ?_ ?_
              · skip
                refine vv_iload_n (i := 1) 43 hk dX12_odds_42 rfl rfl rfl ?_
                refine vv_bipush 45 hk dX12_odds_43 rfl bp_30 ?_
                refine vv_jn (fun t14 => (σ, 70, [some (rf G 86), some (.int a1), some (.int a2), some (.int a3), some (.int a4), some (.int a5), none, none, none, none], [])) (fun t14 => ?_) (fun k70 hk70 => ?_)
                · skip
                  refine vv_bipush 72 hk dX12_odds_70 rfl bp_m6 ?_
                  refine vv_goto 76 hk dX12_odds_72 rfl ?_
                  exact vv_le (ll_s rfl (ll_s rfl (ll_s rfl (ll_s rfl (ll_s rfl (ll_s rfl (ll_n (ll_n (ll_n (ll_n ll_0)))))))))) (hk76 (-6 : Int32))
                · skip
                  refine vv_icmp_gt 70 48 hk dX12_odds_45 rfl rfl ?_ ?_
                  · skip
                    exact vv_le (ll_s rfl (ll_s rfl (ll_s rfl (ll_s rfl (ll_s rfl (ll_s rfl (ll_n (ll_n (ll_n (ll_n ll_0)))))))))) (hk70 ())
                  · skip
                    refine vv_iload_n (i := 2) 49 hk dX12_odds_48 rfl rfl rfl ?_
                    refine vv_iload_n (i := 1) 50 hk dX12_odds_49 rfl rfl rfl ?_
                    refine vv_icmp_gt 70 53 hk dX12_odds_50 rfl rfl ?_ ?_
                    · skip
                      exact vv_le (ll_s rfl (ll_s rfl (ll_s rfl (ll_s rfl (ll_s rfl (ll_s rfl (ll_n (ll_n (ll_n (ll_n ll_0)))))))))) (hk70 ())
                    · skip
                      refine vv_iload_n (i := 3) 54 hk dX12_odds_53 rfl rfl rfl ?_
                      refine vv_bipush 56 hk dX12_odds_54 rfl bp_20 ?_
                      refine vv_icmp_gt 70 59 hk dX12_odds_56 rfl rfl ?_ ?_
                      · skip
                        exact vv_le (ll_s rfl (ll_s rfl (ll_s rfl (ll_s rfl (ll_s rfl (ll_s rfl (ll_n (ll_n (ll_n (ll_n ll_0)))))))))) (hk70 ())
                      · skip
                        refine vv_iload_n (i := 3) 60 hk dX12_odds_59 rfl rfl rfl ?_
                        refine vv_iload_n (i := 1) 61 hk dX12_odds_60 rfl rfl rfl ?_
                        refine vv_icmp_gt 70 64 hk dX12_odds_61 rfl rfl ?_ ?_
                        · skip
                          exact vv_le (ll_s rfl (ll_s rfl (ll_s rfl (ll_s rfl (ll_s rfl (ll_s rfl (ll_n (ll_n (ll_n (ll_n ll_0)))))))))) (hk70 ())
                        · skip
                          refine vv_iload 66 hk dX12_odds_64 rfl rfl ?_
                          refine vv_iload_n (i := 3) 67 hk dX12_odds_66 rfl rfl rfl ?_
                          refine vv_icmp_le 75 70 hk dX12_odds_67 rfl rfl ?_ ?_
                          · skip
                            refine vv_iconst 76 hk dX12_odds_75 rfl ic_0 ?_
                            exact vv_le (ll_s rfl (ll_s rfl (ll_s rfl (ll_s rfl (ll_s rfl (ll_s rfl (ll_n (ll_n (ll_n (ll_n ll_0)))))))))) (hk76 (0 : Int32))
                          · skip
                            exact vv_le (ll_s rfl (ll_s rfl (ll_s rfl (ll_s rfl (ll_s rfl (ll_s rfl (ll_n (ll_n (ll_n (ll_n ll_0)))))))))) (hk70 ())
              · skip
                exact vv_le (ll_s rfl (ll_s rfl (ll_s rfl (ll_s rfl (ll_s rfl (ll_s rfl (ll_n (ll_n (ll_n (ll_n ll_0)))))))))) (hk37 ())
theorem c_X12_offer (G : GT) (a1 : Int32) (a2 : Int32) (a3 : Int32) (σ : Hp) : CtI G false yX12_offer cX12_offer 5 (some .int) 1 [(rf G 86), (.int a1), (.int a2), (.int a3)] (f_X12_offer a1 a2 a3 σ) σ := by
  refine ctI (L0 := [some (rf G 86), some (.int a1), some (.int a2), some (.int a3), none]) (by decide +kernel) rfl rfl rfl (fun κ hk he hret => ?_)
  have hk : KO G κ cX12_offer RX12 1 := hk
  refine vv_aload_n (i := 0) 1 hk dX12_offer_0 rfl rfl rfl ?_
  refine vv_iload_n (i := 1) 2 hk dX12_offer_1 rfl rfl rfl ?_
  refine vv_invIr (st := []) 5 hk he dX12_offer_2 rfl ml_12_238 cf_X12_isRoom la_86 ci_12 (c_X12_isRoom G a1 σ) rfl rfl rfl rfl (fun v1 => ?_)
  refine vv_if_ne 14 8 hk dX12_offer_5 rfl rfl ?_ ?_
  · skip
    refine vv_aload_n (i := 0) 9 hk dX12_offer_8 rfl rfl rfl ?_
    refine vv_iconst 10 hk dX12_offer_9 rfl ic_m1 ?_
    refine vv_invI (st := []) 13 hk he dX12_offer_10 rfl ml_12_226 cf_X12_no la_86 ci_12 (c_X12_no G (-1 : Int32) σ) rfl rfl rfl rfl (fun v2 σ3 => ?_)
    exact hret _ _ _ _ dX12_offer_13
  · skip
    refine vv_iload_n (i := 2) 15 hk dX12_offer_14 rfl rfl rfl ?_
    refine vv_iconst 16 hk dX12_offer_15 rfl ic_1 ?_
    refine vv_jn (fun t4 => (σ, 57, [some (rf G 86), some (.int a1), some (.int a2), some (.int a3), none], [(.int t4)])) (fun t4 => ?_) (fun k57 hk57 => ?_)
    · skip
      refine vv_istore 59 [some (rf G 86), some (.int a1), some (.int a2), some (.int a3), some (.int t4)] hk dX12_offer_57 rfl rfl rfl ?_
      refine vv_iload 61 hk dX12_offer_59 rfl rfl ?_
      refine vv_if_eq 71 64 hk dX12_offer_61 rfl rfl ?_ ?_
      · skip
        refine vv_aload_n (i := 0) 72 hk dX12_offer_71 rfl rfl rfl ?_
        refine vv_getR 75 hk dX12_offer_72 rfl la_86 rfl ci_12 rfl fl_12_198 ?_
        refine vv_aload_n (i := 0) 76 hk dX12_offer_75 rfl rfl rfl ?_
        refine vv_getI 79 hk he dX12_offer_76 rfl la_86 rfl ci_12 rfl fl_12_459 sd_86 ?_
        refine vv_iload_n (i := 1) 80 hk dX12_offer_79 rfl rfl rfl ?_
        refine vv_iast 81 hk he dX12_offer_80 rfl la_149 sd_149 (fun σ5 => ?_)
        refine vv_aload_n (i := 0) 82 hk dX12_offer_81 rfl rfl rfl ?_
        refine vv_getR 85 hk dX12_offer_82 rfl la_86 rfl ci_12 rfl fl_12_201 ?_
        refine vv_aload_n (i := 0) 86 hk dX12_offer_85 rfl rfl rfl ?_
        refine vv_getI 89 hk he dX12_offer_86 rfl la_86 rfl ci_12 rfl fl_12_459 sd_86 ?_
        refine vv_iload_n (i := 2) 90 hk dX12_offer_89 rfl rfl rfl ?_
        refine vv_iast 91 hk he dX12_offer_90 rfl la_150 sd_150 (fun σ6 => ?_)
        refine vv_aload_n (i := 0) 92 hk dX12_offer_91 rfl rfl rfl ?_
        refine vv_getR 95 hk dX12_offer_92 rfl la_86 rfl ci_12 rfl fl_12_204 ?_
        refine vv_aload_n (i := 0) 96 hk dX12_offer_95 rfl rfl rfl ?_
        refine vv_getI 99 hk he dX12_offer_96 rfl la_86 rfl ci_12 rfl fl_12_459 sd_86 ?_
        refine vv_iload_n (i := 3) 100 hk dX12_offer_99 rfl rfl rfl ?_
        refine vv_iast 101 hk he dX12_offer_100 rfl la_151 sd_151 (fun σ7 => ?_)
        refine vv_aload_n (i := 0) 102 hk dX12_offer_101 rfl rfl rfl ?_
        refine vv_dup 103 hk dX12_offer_102 rfl rfl ?_
        refine vv_getI 106 hk he dX12_offer_103 rfl la_86 rfl ci_12 rfl fl_12_459 sd_86 ?_
        refine vv_iconst 107 hk dX12_offer_106 rfl ic_1 ?_
        refine vv_iadd 108 hk dX12_offer_107 rfl ?_
        refine vv_putI 111 hk he dX12_offer_108 rfl la_86 rfl ci_12 rfl fl_12_459 sd_86 rfl rfl (fun σ8 => ?_)
        refine vv_aload_n (i := 0) 112 hk dX12_offer_111 rfl rfl rfl ?_
        refine vv_getI 115 hk he dX12_offer_112 rfl la_86 rfl ci_12 rfl fl_12_459 sd_86 ?_
        exact hret _ _ _ _ dX12_offer_115
      · skip
        refine vv_aload_n (i := 0) 65 hk dX12_offer_64 rfl rfl rfl ?_
        refine vv_iload 67 hk dX12_offer_65 rfl rfl ?_
        refine vv_invI (st := []) 70 hk he dX12_offer_67 rfl ml_12_226 cf_X12_no la_86 ci_12 (c_X12_no G t4 σ) rfl rfl rfl rfl (fun v9 σ10 => ?_)
        exact hret _ _ _ _ dX12_offer_70
    · skip
      refine vv_jn (fun t11 => (σ, 24, [some (rf G 86), some (.int a1), some (.int a2), some (.int a3), none], [])) (fun t11 => ?_) (fun k24 hk24 => ?_)
      · skip
        refine vv_bipush 26 hk dX12_offer_24 rfl bp_m4 ?_
        refine vv_goto 57 hk dX12_offer_26 rfl ?_
        exact vv_le (ll_s rfl (ll_s rfl (ll_s rfl (ll_s rfl (ll_n ll_0))))) (hk57 (-4 : Int32))
      · skip
        refine vv_icmp_lt 24 19 hk dX12_offer_16 rfl rfl ?_ ?_
        · skip
          exact vv_le (ll_s rfl (ll_s rfl (ll_s rfl (ll_s rfl (ll_n ll_0))))) (hk24 ())
        · skip
          refine vv_iload_n (i := 3) 20 hk dX12_offer_19 rfl rfl rfl ?_
          refine vv_iconst 21 hk dX12_offer_20 rfl ic_1 ?_
          refine vv_icmp_ge 29 24 hk dX12_offer_21 rfl rfl ?_ ?_
          · skip
            refine vv_iload_n (i := 2) 30 hk dX12_offer_29 rfl rfl rfl ?_
            refine vv_bipush 32 hk dX12_offer_30 rfl bp_9 ?_
            refine vv_jn (fun t12 => (σ, 51, [some (rf G 86), some (.int a1), some (.int a2), some (.int a3), none], [])) (fun t12 => ?_) (fun k51 hk51 => ?_)
            · skip
              refine vv_bipush 53 hk dX12_offer_51 rfl bp_m6 ?_
              refine vv_goto 57 hk dX12_offer_53 rfl ?_
              exact vv_le (ll_s rfl (ll_s rfl (ll_s rfl (ll_s rfl (ll_n ll_0))))) (hk57 (-6 : Int32))
            · skip
              refine vv_icmp_gt 51 35 hk dX12_offer_32 rfl rfl ?_ ?_
              · skip
                exact vv_le (ll_s rfl (ll_s rfl (ll_s rfl (ll_s rfl (ll_n ll_0))))) (hk51 ())
              · skip
                refine vv_iload_n (i := 3) 36 hk dX12_offer_35 rfl rfl rfl ?_
                refine vv_sipush 39 hk dX12_offer_36 rfl sp_999 ?_
                refine vv_icmp_gt 51 42 hk dX12_offer_39 rfl rfl ?_ ?_
                · skip
                  exact vv_le (ll_s rfl (ll_s rfl (ll_s rfl (ll_s rfl (ll_n ll_0))))) (hk51 ())
                · skip
                  refine vv_aload_n (i := 0) 43 hk dX12_offer_42 rfl rfl rfl ?_
                  refine vv_getI 46 hk he dX12_offer_43 rfl la_86 rfl ci_12 rfl fl_12_459 sd_86 ?_
                  refine vv_bipush 48 hk dX12_offer_46 rfl bp_6 ?_
                  refine vv_icmp_ne 56 51 hk dX12_offer_48 rfl rfl ?_ ?_
                  · skip
                    exact vv_le (ll_s rfl (ll_s rfl (ll_s rfl (ll_s rfl (ll_n ll_0))))) (hk51 ())
                  · skip
                    refine vv_iconst 57 hk dX12_offer_56 rfl ic_0 ?_
                    exact vv_le (ll_s rfl (ll_s rfl (ll_s rfl (ll_s rfl (ll_n ll_0))))) (hk57 (0 : Int32))
          · skip
            exact vv_le (ll_s rfl (ll_s rfl (ll_s rfl (ll_s rfl (ll_n ll_0))))) (hk24 ())
theorem c_X12_order (G : GT) (a1 : Int32) (a2 : Int32) (σ : Hp) : CtI G false yX12_order cX12_order 5 (some .int) 8 [(rf G 86), (.int a1), (.int a2)] (f_X12_order a1 a2 σ) σ := by
  refine ctI (L0 := [some (rf G 86), some (.int a1), some (.int a2), none, none]) (by decide +kernel) rfl rfl rfl (fun κ hk he hret => ?_)
  have hk : KO G κ cX12_order RX12 8 := hk
  refine vv_iload_n (i := 1) 1 hk dX12_order_0 rfl rfl rfl ?_
  refine vv_jn (fun t1 => (σ, 19, [some (rf G 86), some (.int a1), some (.int a2), none, none], [(.int t1)])) (fun t1 => ?_) (fun k19 hk19 => ?_)
  · skip
    refine vv_istore_n (i := 3) 20 [some (rf G 86), some (.int a1), some (.int a2), some (.int t1), none] hk dX12_order_19 rfl rfl rfl rfl ?_
    refine vv_iconst 21 hk dX12_order_20 rfl ic_0 ?_
    refine vv_istore 23 [some (rf G 86), some (.int a1), some (.int a2), some (.int t1), some (.int (0 : Int32))] hk dX12_order_21 rfl rfl rfl ?_
    refine vv_jn (fun t2 => (σ, 68, [some (rf G 86), some (.int a1), some (.int a2), some (.int t2), none], [])) (fun t2 => ?_) (fun k68 hk68 => ?_)
    · skip
      refine vv_iload_n (i := 3) 69 hk dX12_order_68 rfl rfl rfl ?_
      refine vv_if_eq 78 72 hk dX12_order_69 rfl rfl ?_ ?_
      · skip
        refine vv_iload_n (i := 2) 79 hk dX12_order_78 rfl rfl rfl ?_
        refine vv_jn (fun t3 => (σ, 102, [some (rf G 86), some (.int a1), some (.int a2), none, none], [(.int t3)])) (fun t3 => ?_) (fun k102 hk102 => ?_)
        · skip
          refine vv_istore 104 [some (rf G 86), some (.int a1), some (.int a2), none, some (.int t3)] hk dX12_order_102 rfl rfl rfl ?_
          refine vv_iload 106 hk dX12_order_104 rfl rfl ?_
          refine vv_if_eq 116 109 hk dX12_order_106 rfl rfl ?_ ?_
          · skip
            refine vv_iload_n (i := 2) 117 hk dX12_order_116 rfl rfl rfl ?_
            refine vv_iload_n (i := 1) 118 hk dX12_order_117 rfl rfl rfl ?_
            refine vv_staIr (st := [(.int a2)]) 121 hk he dX12_order_118 rfl ml_12_391 sf_X12_bits (c_X12_bits G a1 σ) rfl rfl rfl rfl (fun v4 => ?_)
            refine vv_jn (fun t5 => (t5.2, 143, [some (rf G 86), none, none, none, none], [(.int t5.1)])) (fun t5 => ?_) (fun k143 hk143 => ?_)
            · skip
              exact hret _ _ _ _ dX12_order_143
            · skip
              refine vv_jn (fun t6 => (t6, 132, [some (rf G 86), none, none, none, none], [])) (fun t6 => ?_) (fun k132 hk132 => ?_)
              · skip
                refine vv_bipush 134 hk dX12_order_132 rfl bp_m9 ?_
                refine vv_goto 143 hk dX12_order_134 rfl ?_
                exact vv_le (ll_s rfl (ll_n (ll_n (ll_n (ll_n ll_0))))) (hk143 ((-9 : Int32), t6))
              · skip
                refine vv_icmp_ge 132 124 hk dX12_order_121 rfl rfl ?_ ?_
                · skip
                  exact vv_le (ll_s rfl (ll_n (ll_n (ll_n (ll_n ll_0))))) (hk132 σ)
                · skip
                  refine vv_aload_n (i := 0) 125 hk dX12_order_124 rfl rfl rfl ?_
                  refine vv_iload_n (i := 1) 126 hk dX12_order_125 rfl rfl rfl ?_
                  refine vv_invI (st := []) 129 hk he dX12_order_126 rfl ml_12_397 cf_X12_findOrder la_86 ci_12 (c_X12_findOrder G a1 σ) rfl rfl rfl rfl (fun v7 σ8 => ?_)
                  refine vv_if_ne 137 132 hk dX12_order_129 rfl rfl ?_ ?_
                  · skip
                    exact vv_le (ll_s rfl (ll_n (ll_n (ll_n (ll_n ll_0))))) (hk132 σ8)
                  · skip
                    refine vv_aload_n (i := 0) 138 hk dX12_order_137 rfl rfl rfl ?_
                    refine vv_getR 141 hk dX12_order_138 rfl la_86 rfl ci_12 rfl fl_12_131 ?_
                    refine vv_iload_n (i := 2) 142 hk dX12_order_141 rfl rfl rfl ?_
                    refine vv_iald 143 hk he dX12_order_142 rfl la_127 sd_127 (fun v9 => ?_)
                    exact vv_le (ll_s rfl (ll_n (ll_n (ll_n (ll_n ll_0))))) (hk143 (v9, σ8))
          · skip
            refine vv_aload_n (i := 0) 110 hk dX12_order_109 rfl rfl rfl ?_
            refine vv_iload 112 hk dX12_order_110 rfl rfl ?_
            refine vv_invI (st := []) 115 hk he dX12_order_112 rfl ml_12_226 cf_X12_no la_86 ci_12 (c_X12_no G t3 σ) rfl rfl rfl rfl (fun v10 σ11 => ?_)
            exact hret _ _ _ _ dX12_order_115
        · skip
          refine vv_if_ge 87 82 hk dX12_order_79 rfl rfl ?_ ?_
          · skip
            refine vv_iload_n (i := 1) 88 hk dX12_order_87 rfl rfl rfl ?_
            refine vv_staIr (st := []) 91 hk he dX12_order_88 rfl ml_12_391 sf_X12_bits (c_X12_bits G a1 σ) rfl rfl rfl rfl (fun v12 => ?_)
            refine vv_bipush 93 hk dX12_order_91 rfl bp_6 ?_
            refine vv_icmp_le 101 96 hk dX12_order_93 rfl rfl ?_ ?_
            · skip
              refine vv_iconst 102 hk dX12_order_101 rfl ic_0 ?_
              exact vv_le (ll_s rfl (ll_s rfl (ll_s rfl (ll_n (ll_n ll_0))))) (hk102 (0 : Int32))
            · skip
              refine vv_bipush 98 hk dX12_order_96 rfl bp_m6 ?_
              refine vv_goto 102 hk dX12_order_98 rfl ?_
              exact vv_le (ll_s rfl (ll_s rfl (ll_s rfl (ll_n (ll_n ll_0))))) (hk102 (-6 : Int32))
          · skip
            refine vv_bipush 84 hk dX12_order_82 rfl bp_m4 ?_
            refine vv_goto 102 hk dX12_order_84 rfl ?_
            exact vv_le (ll_s rfl (ll_s rfl (ll_s rfl (ll_n (ll_n ll_0))))) (hk102 (-4 : Int32))
      · skip
        refine vv_aload_n (i := 0) 73 hk dX12_order_72 rfl rfl rfl ?_
        refine vv_iconst 74 hk dX12_order_73 rfl ic_m1 ?_
        refine vv_invI (st := []) 77 hk he dX12_order_74 rfl ml_12_226 cf_X12_no la_86 ci_12 (c_X12_no G (-1 : Int32) σ) rfl rfl rfl rfl (fun v13 σ14 => ?_)
        exact hret _ _ _ _ dX12_order_77
    · skip
      refine vv_lp (fun t15 => (σ, 23, [some (rf G 86), some (.int a1), some (.int a2), some (.int t15.1), some (.int t15.2)], [])) (fun kl23 hkl23 t15 => ?_) FU (t1, (0 : Int32))
      refine vv_iload 25 hk dX12_order_23 rfl rfl ?_
      refine vv_aload_n (i := 0) 26 hk dX12_order_25 rfl rfl rfl ?_
      refine vv_getI 29 hk he dX12_order_26 rfl la_86 rfl ci_12 rfl fl_12_217 sd_86 ?_
      refine vv_icmp_ge 68 32 hk dX12_order_29 rfl rfl ?_ ?_
      · skip
        exact vv_le (ll_s rfl (ll_s rfl (ll_s rfl (ll_s rfl (ll_n ll_0))))) (hk68 t15.1)
      · skip
        refine vv_iload_n (i := 3) 33 hk dX12_order_32 rfl rfl rfl ?_
        refine vv_if_ne 68 36 hk dX12_order_33 rfl rfl ?_ ?_
        · skip
          refine vv_iload_n (i := 1) 37 hk dX12_order_36 rfl rfl rfl ?_
          refine vv_iload 39 hk dX12_order_37 rfl rfl ?_
          refine vv_ishr 40 hk dX12_order_39 rfl ?_
          refine vv_iconst 41 hk dX12_order_40 rfl ic_1 ?_
          refine vv_iand 42 hk dX12_order_41 rfl ?_
          refine vv_iconst 43 hk dX12_order_42 rfl ic_1 ?_
          refine vv_jn (fun t16 => (σ, 61, [some (rf G 86), some (.int a1), some (.int a2), none, some (.int t15.2)], [(.int t16)])) (fun t16 => ?_) (fun k61 hk61 => ?_)
          · skip
            refine vv_istore_n (i := 3) 62 [some (rf G 86), some (.int a1), some (.int a2), some (.int t16), some (.int t15.2)] hk dX12_order_61 rfl rfl rfl rfl ?_
            refine vv_iinc 65 (fun x17 => [some (rf G 86), some (.int a1), some (.int a2), some (.int t16), some (.int x17)]) hk dX12_order_62 rfl rfl ic_1 (fun _ => rfl) (fun x17 => ?_)
            refine vv_goto 23 hk dX12_order_65 rfl ?_
            exact vv_le (ll_s rfl (ll_s rfl (ll_s rfl (ll_s rfl (ll_s rfl ll_0))))) (hkl23 (t16, x17))
          · skip
            refine vv_jn (fun t18 => (σ, 60, [some (rf G 86), some (.int a1), some (.int a2), none, some (.int t15.2)], [])) (fun t18 => ?_) (fun k60 hk60 => ?_)
            · skip
              refine vv_iconst 61 hk dX12_order_60 rfl ic_0 ?_
              exact vv_le (ll_s rfl (ll_s rfl (ll_s rfl (ll_n (ll_s rfl ll_0))))) (hk61 (0 : Int32))
            · skip
              refine vv_icmp_ne 60 46 hk dX12_order_43 rfl rfl ?_ ?_
              · skip
                refine vv_aload_n (i := 0) 47 hk dX12_order_46 rfl rfl rfl ?_
                refine vv_getR 50 hk dX12_order_47 rfl la_86 rfl ci_12 rfl fl_12_65 ?_
                refine vv_iload 52 hk dX12_order_50 rfl rfl ?_
                refine vv_zald 53 hk he dX12_order_52 rfl la_105 sd_105 (fun v19 => ?_)
                refine vv_if_eq 60 56 hk dX12_order_53 rfl rfl ?_ ?_
                · skip
                  exact vv_le (ll_s rfl (ll_s rfl (ll_s rfl (ll_n (ll_s rfl ll_0))))) (hk60 ())
                · skip
                  refine vv_iconst 57 hk dX12_order_56 rfl ic_1 ?_
                  refine vv_goto 61 hk dX12_order_57 rfl ?_
                  exact vv_le (ll_s rfl (ll_s rfl (ll_s rfl (ll_n (ll_s rfl ll_0))))) (hk61 (1 : Int32))
              · skip
                exact vv_le (ll_s rfl (ll_s rfl (ll_s rfl (ll_n (ll_s rfl ll_0))))) (hk60 ())
        · skip
          exact vv_le (ll_s rfl (ll_s rfl (ll_s rfl (ll_s rfl (ll_n ll_0))))) (hk68 t15.1)
  · skip
    refine vv_jn (fun t20 => (σ, 14, [some (rf G 86), some (.int a1), some (.int a2), none, none], [])) (fun t20 => ?_) (fun k14 hk14 => ?_)
    · skip
      refine vv_iconst 15 hk dX12_order_14 rfl ic_1 ?_
      refine vv_goto 19 hk dX12_order_15 rfl ?_
      exact vv_le (ll_s rfl (ll_s rfl (ll_s rfl (ll_n (ll_n ll_0))))) (hk19 (1 : Int32))
    · skip
      refine vv_if_lt 14 4 hk dX12_order_1 rfl rfl ?_ ?_
      · skip
        exact vv_le (ll_s rfl (ll_s rfl (ll_s rfl (ll_n (ll_n ll_0))))) (hk14 ())
      · skip
        refine vv_iload_n (i := 1) 5 hk dX12_order_4 rfl rfl rfl ?_
        refine vv_iconst 6 hk dX12_order_5 rfl ic_1 ?_
        refine vv_aload_n (i := 0) 7 hk dX12_order_6 rfl rfl rfl ?_
        refine vv_getI 10 hk he dX12_order_7 rfl la_86 rfl ci_12 rfl fl_12_217 sd_86 ?_
        refine vv_ishl 11 hk dX12_order_10 rfl ?_
        refine vv_icmp_lt 18 14 hk dX12_order_11 rfl rfl ?_ ?_
        · skip
          refine vv_iconst 19 hk dX12_order_18 rfl ic_0 ?_
          exact vv_le (ll_s rfl (ll_s rfl (ll_s rfl (ll_n (ll_n ll_0))))) (hk19 (0 : Int32))
        · skip
          exact vv_le (ll_s rfl (ll_s rfl (ll_s rfl (ll_n (ll_n ll_0))))) (hk14 ())
theorem c_X12_parses (G : GT) (σ : Hp) : CtI G false yX12_parses cX12_parses 1 (some .boolean) 3 [(rf G 86)] (f_X12_parses σ) σ := by
  refine ctZ (L0 := [some (rf G 86)]) (by decide +kernel) rfl rfl rfl (fun κ hk he hret => ?_)
  have hk : KO G κ cX12_parses RX12 3 := hk
  refine vv_aload_n (i := 0) 1 hk dX12_parses_0 rfl rfl rfl ?_
  refine vv_iconst 2 hk dX12_parses_1 rfl ic_0 ?_
  refine vv_putI 5 hk he dX12_parses_2 rfl la_86 rfl ci_12 rfl fl_12_313 sd_86 rfl rfl (fun σ1 => ?_)
  refine vv_aload_n (i := 0) 6 hk dX12_parses_5 rfl rfl rfl ?_
  refine vv_iconst 7 hk dX12_parses_6 rfl ic_0 ?_
  refine vv_putI 10 hk he dX12_parses_7 rfl la_86 rfl ci_12 rfl fl_12_327 sd_86 rfl rfl (fun σ2 => ?_)
  refine vv_aload_n (i := 0) 11 hk dX12_parses_10 rfl rfl rfl ?_
  refine vv_invIr (st := []) 14 hk he dX12_parses_11 rfl ml_12_316 cf_X12_sign la_86 ci_12 (c_X12_sign G σ2) rfl rfl rfl rfl (fun v3 => ?_)
  refine vv_bipush 16 hk dX12_parses_14 rfl bp_86 ?_
  refine vv_jn (fun t4 => (σ2, 30, [some (rf G 86)], [])) (fun t4 => ?_) (fun k30 hk30 => ?_)
  · skip
    refine vv_aload_n (i := 0) 31 hk dX12_parses_30 rfl rfl rfl ?_
    refine vv_dup 32 hk dX12_parses_31 rfl rfl ?_
    refine vv_getI 35 hk he dX12_parses_32 rfl la_86 rfl ci_12 rfl fl_12_313 sd_86 ?_
    refine vv_iconst 36 hk dX12_parses_35 rfl ic_1 ?_
    refine vv_iadd 37 hk dX12_parses_36 rfl ?_
    refine vv_putI 40 hk he dX12_parses_37 rfl la_86 rfl ci_12 rfl fl_12_313 sd_86 rfl rfl (fun σ5 => ?_)
    refine vv_aload_n (i := 0) 41 hk dX12_parses_40 rfl rfl rfl ?_
    refine vv_invI (st := []) 44 hk he dX12_parses_41 rfl ml_12_323 cf_X12_digit la_86 ci_12 (c_X12_digit G σ5) rfl rfl rfl rfl (fun v6 σ7 => ?_)
    refine vv_if_eq 56 47 hk dX12_parses_44 rfl rfl ?_ ?_
    · skip
      refine vv_iconst 57 hk dX12_parses_56 rfl ic_0 ?_
      exact hret _ _ _ _ dX12_parses_57
    · skip
      refine vv_aload_n (i := 0) 48 hk dX12_parses_47 rfl rfl rfl ?_
      refine vv_invIr (st := []) 51 hk he dX12_parses_48 rfl ml_12_316 cf_X12_sign la_86 ci_12 (c_X12_sign G σ7) rfl rfl rfl rfl (fun v8 => ?_)
      refine vv_bipush 53 hk dX12_parses_51 rfl bp_58 ?_
      refine vv_icmp_eq 58 56 hk dX12_parses_53 rfl rfl ?_ ?_
      · skip
        refine vv_aload_n (i := 0) 59 hk dX12_parses_58 rfl rfl rfl ?_
        refine vv_dup 60 hk dX12_parses_59 rfl rfl ?_
        refine vv_getI 63 hk he dX12_parses_60 rfl la_86 rfl ci_12 rfl fl_12_313 sd_86 ?_
        refine vv_iconst 64 hk dX12_parses_63 rfl ic_1 ?_
        refine vv_iadd 65 hk dX12_parses_64 rfl ?_
        refine vv_putI 68 hk he dX12_parses_65 rfl la_86 rfl ci_12 rfl fl_12_313 sd_86 rfl rfl (fun σ9 => ?_)
        refine vv_lp (fun t10 => (t10, 68, [some (rf G 86)], [])) (fun kl68 hkl68 t10 => ?_) FU σ9
        refine vv_aload_n (i := 0) 69 hk dX12_parses_68 rfl rfl rfl ?_
        refine vv_invIr (st := []) 72 hk he dX12_parses_69 rfl ml_12_316 cf_X12_sign la_86 ci_12 (c_X12_sign G t10) rfl rfl rfl rfl (fun v11 => ?_)
        refine vv_bipush 74 hk dX12_parses_72 rfl bp_33 ?_
        refine vv_jn (fun t12 => (t10, 86, [some (rf G 86)], [])) (fun t12 => ?_) (fun k86 hk86 => ?_)
        · skip
          refine vv_aload_n (i := 0) 87 hk dX12_parses_86 rfl rfl rfl ?_
          refine vv_getI 90 hk he dX12_parses_87 rfl la_86 rfl ci_12 rfl fl_12_327 sd_86 ?_
          refine vv_iconst 91 hk dX12_parses_90 rfl ic_4 ?_
          refine vv_icmp_ne 96 94 hk dX12_parses_91 rfl rfl ?_ ?_
          · skip
            refine vv_iconst 95 hk dX12_parses_94 rfl ic_0 ?_
            exact hret _ _ _ _ dX12_parses_95
          · skip
            refine vv_aload_n (i := 0) 97 hk dX12_parses_96 rfl rfl rfl ?_
            refine vv_getR 100 hk dX12_parses_97 rfl la_86 rfl ci_12 rfl fl_12_104 ?_
            refine vv_aload_n (i := 0) 101 hk dX12_parses_100 rfl rfl rfl ?_
            refine vv_getI 104 hk he dX12_parses_101 rfl la_86 rfl ci_12 rfl fl_12_327 sd_86 ?_
            refine vv_aload_n (i := 0) 105 hk dX12_parses_104 rfl rfl rfl ?_
            refine vv_invIr (st := [(.int (t10.1 86 40)), (rf G 118)]) 108 hk he dX12_parses_105 rfl ml_12_316 cf_X12_sign la_86 ci_12 (c_X12_sign G t10) rfl rfl rfl rfl (fun v13 => ?_)
            refine vv_bipush 110 hk dX12_parses_108 rfl bp_33 ?_
            refine vv_jn (fun t14 => (t10, 118, [some (rf G 86)], [(.int t14), (.int (t10.1 86 40)), (rf G 118)])) (fun t14 => ?_) (fun k118 hk118 => ?_)
            · skip
              refine vv_iast 119 hk he dX12_parses_118 rfl la_118 sd_118 (fun σ15 => ?_)
              refine vv_aload_n (i := 0) 120 hk dX12_parses_119 rfl rfl rfl ?_
              refine vv_dup 121 hk dX12_parses_120 rfl rfl ?_
              refine vv_getI 124 hk he dX12_parses_121 rfl la_86 rfl ci_12 rfl fl_12_327 sd_86 ?_
              refine vv_iconst 125 hk dX12_parses_124 rfl ic_1 ?_
              refine vv_iadd 126 hk dX12_parses_125 rfl ?_
              refine vv_putI 129 hk he dX12_parses_126 rfl la_86 rfl ci_12 rfl fl_12_327 sd_86 rfl rfl (fun σ16 => ?_)
              refine vv_aload_n (i := 0) 130 hk dX12_parses_129 rfl rfl rfl ?_
              refine vv_dup 131 hk dX12_parses_130 rfl rfl ?_
              refine vv_getI 134 hk he dX12_parses_131 rfl la_86 rfl ci_12 rfl fl_12_313 sd_86 ?_
              refine vv_iconst 135 hk dX12_parses_134 rfl ic_1 ?_
              refine vv_iadd 136 hk dX12_parses_135 rfl ?_
              refine vv_putI 139 hk he dX12_parses_136 rfl la_86 rfl ci_12 rfl fl_12_313 sd_86 rfl rfl (fun σ17 => ?_)
              refine vv_goto 68 hk dX12_parses_139 rfl ?_
              exact vv_le (ll_s rfl ll_0) (hkl68 σ17)
            · skip
              refine vv_icmp_ne 117 113 hk dX12_parses_110 rfl rfl ?_ ?_
              · skip
                refine vv_iconst 114 hk dX12_parses_113 rfl ic_1 ?_
                refine vv_goto 118 hk dX12_parses_114 rfl ?_
                exact vv_le (ll_s rfl ll_0) (hk118 (1 : Int32))
              · skip
                refine vv_iconst 118 hk dX12_parses_117 rfl ic_2 ?_
                exact vv_le (ll_s rfl ll_0) (hk118 (2 : Int32))
        · skip
          refine vv_icmp_eq 86 77 hk dX12_parses_74 rfl rfl ?_ ?_
          · skip
            exact vv_le (ll_s rfl ll_0) (hk86 ())
          · skip
            refine vv_aload_n (i := 0) 78 hk dX12_parses_77 rfl rfl rfl ?_
            refine vv_invIr (st := []) 81 hk he dX12_parses_78 rfl ml_12_316 cf_X12_sign la_86 ci_12 (c_X12_sign G t10) rfl rfl rfl rfl (fun v18 => ?_)
            refine vv_bipush 83 hk dX12_parses_81 rfl bp_40 ?_
            refine vv_icmp_ne 142 86 hk dX12_parses_83 rfl rfl ?_ ?_
            · skip
              exact vv_le (ll_s rfl ll_0) (hk86 ())
            · skip
              refine vv_aload_n (i := 0) 143 hk dX12_parses_142 rfl rfl rfl ?_
              refine vv_invI (st := []) 146 hk he dX12_parses_143 rfl ml_12_330 cf_X12_compares la_86 ci_12 (c_X12_compares G t10) rfl rfl rfl rfl (fun v19 σ20 => ?_)
              refine vv_if_ne 151 149 hk dX12_parses_146 rfl rfl ?_ ?_
              · skip
                refine vv_iconst 150 hk dX12_parses_149 rfl ic_0 ?_
                exact hret _ _ _ _ dX12_parses_150
              · skip
                refine vv_aload_n (i := 0) 152 hk dX12_parses_151 rfl rfl rfl ?_
                refine vv_invV (st := []) 155 hk he dX12_parses_152 rfl ml_12_333 cf_X12_closes la_86 ci_12 (c_X12_closes G σ20) rfl rfl rfl rfl (fun σ21 => ?_)
                refine vv_jn (fun t22 => (t22, 198, [some (rf G 86)], [])) (fun t22 => ?_) (fun k198 hk198 => ?_)
                · skip
                  refine vv_aload_n (i := 0) 199 hk dX12_parses_198 rfl rfl rfl ?_
                  refine vv_invIr (st := []) 202 hk he dX12_parses_199 rfl ml_12_316 cf_X12_sign la_86 ci_12 (c_X12_sign G t22) rfl rfl rfl rfl (fun v23 => ?_)
                  refine vv_iconst 203 hk dX12_parses_202 rfl ic_m1 ?_
                  refine vv_jn (fun t24 => (t22, 215, [some (rf G 86)], [])) (fun t24 => ?_) (fun k215 hk215 => ?_)
                  · skip
                    refine vv_aload_n (i := 0) 216 hk dX12_parses_215 rfl rfl rfl ?_
                    refine vv_invIr (st := []) 219 hk he dX12_parses_216 rfl ml_12_316 cf_X12_sign la_86 ci_12 (c_X12_sign G t22) rfl rfl rfl rfl (fun v25 => ?_)
                    refine vv_bipush 221 hk dX12_parses_219 rfl bp_124 ?_
                    refine vv_jn (fun t26 => (t22, 235, [some (rf G 86)], [])) (fun t26 => ?_) (fun k235 hk235 => ?_)
                    · skip
                      refine vv_aload_n (i := 0) 236 hk dX12_parses_235 rfl rfl rfl ?_
                      refine vv_dup 237 hk dX12_parses_236 rfl rfl ?_
                      refine vv_getI 240 hk he dX12_parses_237 rfl la_86 rfl ci_12 rfl fl_12_313 sd_86 ?_
                      refine vv_iconst 241 hk dX12_parses_240 rfl ic_1 ?_
                      refine vv_iadd 242 hk dX12_parses_241 rfl ?_
                      refine vv_putI 245 hk he dX12_parses_242 rfl la_86 rfl ci_12 rfl fl_12_313 sd_86 rfl rfl (fun σ27 => ?_)
                      refine vv_goto 68 hk dX12_parses_245 rfl ?_
                      exact vv_le (ll_s rfl ll_0) (hkl68 σ27)
                    · skip
                      refine vv_icmp_eq 235 224 hk dX12_parses_221 rfl rfl ?_ ?_
                      · skip
                        exact vv_le (ll_s rfl ll_0) (hk235 ())
                      · skip
                        refine vv_aload_n (i := 0) 225 hk dX12_parses_224 rfl rfl rfl ?_
                        refine vv_invIr (st := []) 228 hk he dX12_parses_225 rfl ml_12_316 cf_X12_sign la_86 ci_12 (c_X12_sign G t22) rfl rfl rfl rfl (fun v28 => ?_)
                        refine vv_bipush 230 hk dX12_parses_228 rfl bp_38 ?_
                        refine vv_icmp_eq 235 233 hk dX12_parses_230 rfl rfl ?_ ?_
                        · skip
                          exact vv_le (ll_s rfl ll_0) (hk235 ())
                        · skip
                          refine vv_iconst 234 hk dX12_parses_233 rfl ic_0 ?_
                          exact hret _ _ _ _ dX12_parses_234
                  · skip
                    refine vv_icmp_ne 215 206 hk dX12_parses_203 rfl rfl ?_ ?_
                    · skip
                      refine vv_aload_n (i := 0) 207 hk dX12_parses_206 rfl rfl rfl ?_
                      refine vv_getI 210 hk he dX12_parses_207 rfl la_86 rfl ci_12 rfl fl_12_327 sd_86 ?_
                      refine vv_if_ne 215 213 hk dX12_parses_210 rfl rfl ?_ ?_
                      · skip
                        refine vv_iconst 214 hk dX12_parses_213 rfl ic_1 ?_
                        exact hret _ _ _ _ dX12_parses_214
                      · skip
                        exact vv_le (ll_s rfl ll_0) (hk215 ())
                    · skip
                      exact vv_le (ll_s rfl ll_0) (hk215 ())
                · skip
                  refine vv_lp (fun t29 => (t29, 155, [some (rf G 86)], [])) (fun kl155 hkl155 t29 => ?_) FU σ21
                  refine vv_aload_n (i := 0) 156 hk dX12_parses_155 rfl rfl rfl ?_
                  refine vv_invIr (st := []) 159 hk he dX12_parses_156 rfl ml_12_316 cf_X12_sign la_86 ci_12 (c_X12_sign G t29) rfl rfl rfl rfl (fun v30 => ?_)
                  refine vv_bipush 161 hk dX12_parses_159 rfl bp_41 ?_
                  refine vv_icmp_ne 198 164 hk dX12_parses_161 rfl rfl ?_ ?_
                  · skip
                    refine vv_aload_n (i := 0) 165 hk dX12_parses_164 rfl rfl rfl ?_
                    refine vv_getI 168 hk he dX12_parses_165 rfl la_86 rfl ci_12 rfl fl_12_327 sd_86 ?_
                    refine vv_if_le 198 171 hk dX12_parses_168 rfl rfl ?_ ?_
                    · skip
                      exact vv_le (ll_s rfl ll_0) (hk198 t29)
                    · skip
                      refine vv_aload_n (i := 0) 172 hk dX12_parses_171 rfl rfl rfl ?_
                      refine vv_dup 173 hk dX12_parses_172 rfl rfl ?_
                      refine vv_getI 176 hk he dX12_parses_173 rfl la_86 rfl ci_12 rfl fl_12_313 sd_86 ?_
                      refine vv_iconst 177 hk dX12_parses_176 rfl ic_1 ?_
                      refine vv_iadd 178 hk dX12_parses_177 rfl ?_
                      refine vv_putI 181 hk he dX12_parses_178 rfl la_86 rfl ci_12 rfl fl_12_313 sd_86 rfl rfl (fun σ31 => ?_)
                      refine vv_aload_n (i := 0) 182 hk dX12_parses_181 rfl rfl rfl ?_
                      refine vv_dup 183 hk dX12_parses_182 rfl rfl ?_
                      refine vv_getI 186 hk he dX12_parses_183 rfl la_86 rfl ci_12 rfl fl_12_327 sd_86 ?_
                      refine vv_iconst 187 hk dX12_parses_186 rfl ic_1 ?_
                      refine vv_isub 188 hk dX12_parses_187 rfl ?_
                      refine vv_putI 191 hk he dX12_parses_188 rfl la_86 rfl ci_12 rfl fl_12_327 sd_86 rfl rfl (fun σ32 => ?_)
                      refine vv_aload_n (i := 0) 192 hk dX12_parses_191 rfl rfl rfl ?_
                      refine vv_invV (st := []) 195 hk he dX12_parses_192 rfl ml_12_333 cf_X12_closes la_86 ci_12 (c_X12_closes G σ32) rfl rfl rfl rfl (fun σ33 => ?_)
                      refine vv_goto 155 hk dX12_parses_195 rfl ?_
                      exact vv_le (ll_s rfl ll_0) (hkl155 σ33)
                  · skip
                    exact vv_le (ll_s rfl ll_0) (hk198 t29)
      · skip
        refine vv_iconst 57 hk dX12_parses_56 rfl ic_0 ?_
        exact hret _ _ _ _ dX12_parses_57
  · skip
    refine vv_icmp_eq 30 19 hk dX12_parses_16 rfl rfl ?_ ?_
    · skip
      exact vv_le (ll_s rfl ll_0) (hk30 ())
    · skip
      refine vv_aload_n (i := 0) 20 hk dX12_parses_19 rfl rfl rfl ?_
      refine vv_invIr (st := []) 23 hk he dX12_parses_20 rfl ml_12_316 cf_X12_sign la_86 ci_12 (c_X12_sign G σ2) rfl rfl rfl rfl (fun v34 => ?_)
      refine vv_bipush 25 hk dX12_parses_23 rfl bp_80 ?_
      refine vv_icmp_eq 30 28 hk dX12_parses_25 rfl rfl ?_ ?_
      · skip
        exact vv_le (ll_s rfl ll_0) (hk30 ())
      · skip
        refine vv_iconst 29 hk dX12_parses_28 rfl ic_0 ?_
        exact hret _ _ _ _ dX12_parses_29
theorem c_X12_sucks (G : GT) (a1 : Int32) (σ : Hp) : CtV G false yX12_sucks cX12_sucks 5 none 1 [(rf G 86), (.int a1)] (f_X12_sucks a1 σ) σ := by
  refine ctV (L0 := [some (rf G 86), some (.int a1), none, none, none]) (by decide +kernel) rfl rfl rfl (fun κ hk he hret => ?_)
  have hk : KO G κ cX12_sucks RX12 1 := hk
  refine vv_iconst 1 hk dX12_sucks_0 rfl ic_0 ?_
  refine vv_istore_n (i := 2) 2 [some (rf G 86), some (.int a1), some (.int (0 : Int32)), none, none] hk dX12_sucks_1 rfl rfl rfl rfl ?_
  refine vv_lp (fun t1 => (t1.2, 2, [some (rf G 86), some (.int a1), some (.int t1.1), none, none], [])) (fun kl2 hkl2 t1 => ?_) FU ((0 : Int32), σ)
  refine vv_iload_n (i := 2) 3 hk dX12_sucks_2 rfl rfl rfl ?_
  refine vv_iconst 4 hk dX12_sucks_3 rfl ic_3 ?_
  refine vv_icmp_ge 146 7 hk dX12_sucks_4 rfl rfl ?_ ?_
  · skip
    exact hret _ _ _ dX12_sucks_146
  · skip
    refine vv_iconst 8 hk dX12_sucks_7 rfl ic_3 ?_
    refine vv_aload_n (i := 0) 9 hk dX12_sucks_8 rfl rfl rfl ?_
    refine vv_getR 12 hk dX12_sucks_9 rfl la_86 rfl ci_12 rfl fl_12_34 ?_
    refine vv_iload_n (i := 1) 13 hk dX12_sucks_12 rfl rfl rfl ?_
    refine vv_iald 14 hk he dX12_sucks_13 rfl la_95 sd_95 (fun v2 => ?_)
    refine vv_imul 15 hk dX12_sucks_14 rfl ?_
    refine vv_iload_n (i := 2) 16 hk dX12_sucks_15 rfl rfl rfl ?_
    refine vv_iadd 17 hk dX12_sucks_16 rfl ?_
    refine vv_istore_nL (i := 3) 18 (fun x3 => [some (rf G 86), some (.int a1), some (.int t1.1), some (.int x3), none]) hk dX12_sucks_17 rfl rfl rfl (fun _ => rfl) (fun x3 => ?_)
    refine vv_aload_n (i := 0) 19 hk dX12_sucks_18 rfl rfl rfl ?_
    refine vv_iload_n (i := 3) 20 hk dX12_sucks_19 rfl rfl rfl ?_
    refine vv_aload_n (i := 0) 21 hk dX12_sucks_20 rfl rfl rfl ?_
    refine vv_getR 24 hk dX12_sucks_21 rfl la_86 rfl ci_12 rfl fl_12_37 ?_
    refine vv_iconst 25 hk dX12_sucks_24 rfl ic_3 ?_
    refine vv_iload_n (i := 1) 26 hk dX12_sucks_25 rfl rfl rfl ?_
    refine vv_imul 27 hk dX12_sucks_26 rfl ?_
    refine vv_iload_n (i := 2) 28 hk dX12_sucks_27 rfl rfl rfl ?_
    refine vv_iadd 29 hk dX12_sucks_28 rfl ?_
    refine vv_iald 30 hk he dX12_sucks_29 rfl la_96 sd_96 (fun v4 => ?_)
    refine vv_invIr (st := []) 33 hk he dX12_sucks_30 rfl ml_12_257 cf_X12_share la_86 ci_12 (c_X12_share G x3 v4 t1.2) rfl rfl rfl rfl (fun v5 => ?_)
    refine vv_istore 35 [some (rf G 86), some (.int a1), some (.int t1.1), some (.int x3), some (.int v5)] hk dX12_sucks_33 rfl rfl rfl ?_
    refine vv_iload 37 hk dX12_sucks_35 rfl rfl ?_
    refine vv_aload_n (i := 0) 38 hk dX12_sucks_37 rfl rfl rfl ?_
    refine vv_getR 41 hk dX12_sucks_38 rfl la_86 rfl ci_12 rfl fl_12_46 ?_
    refine vv_iload_n (i := 3) 42 hk dX12_sucks_41 rfl rfl rfl ?_
    refine vv_iald 43 hk he dX12_sucks_42 rfl la_99 sd_99 (fun v6 => ?_)
    refine vv_jn (fun t7 => (t1.2, 54, [some (rf G 86), some (.int a1), some (.int t1.1), some (.int x3), some (.int t7)], [])) (fun t7 => ?_) (fun k54 hk54 => ?_)
    · skip
      refine vv_aload_n (i := 0) 55 hk dX12_sucks_54 rfl rfl rfl ?_
      refine vv_getR 58 hk dX12_sucks_55 rfl la_86 rfl ci_12 rfl fl_12_40 ?_
      refine vv_iload_n (i := 1) 59 hk dX12_sucks_58 rfl rfl rfl ?_
      refine vv_iald 60 hk he dX12_sucks_59 rfl la_97 sd_97 (fun v8 => ?_)
      refine vv_jn (fun t9 => (t1.2, 94, [some (rf G 86), some (.int a1), some (.int t1.1), some (.int x3), some (.int t9)], [])) (fun t9 => ?_) (fun k94 hk94 => ?_)
      · skip
        refine vv_aload_n (i := 0) 95 hk dX12_sucks_94 rfl rfl rfl ?_
        refine vv_getR 98 hk dX12_sucks_95 rfl la_86 rfl ci_12 rfl fl_12_46 ?_
        refine vv_iload_n (i := 3) 99 hk dX12_sucks_98 rfl rfl rfl ?_
        refine vv_dup2 100 hk dX12_sucks_99 rfl rfl rfl ?_
        refine vv_iald 101 hk he dX12_sucks_100 rfl la_99 sd_99 (fun v10 => ?_)
        refine vv_iload 103 hk dX12_sucks_101 rfl rfl ?_
        refine vv_isub 104 hk dX12_sucks_103 rfl ?_
        refine vv_iast 105 hk he dX12_sucks_104 rfl la_99 sd_99 (fun σ11 => ?_)
        refine vv_aload_n (i := 0) 106 hk dX12_sucks_105 rfl rfl rfl ?_
        refine vv_getR 109 hk dX12_sucks_106 rfl la_86 rfl ci_12 rfl fl_12_52 ?_
        refine vv_iconst 110 hk dX12_sucks_109 rfl ic_3 ?_
        refine vv_iload_n (i := 1) 111 hk dX12_sucks_110 rfl rfl rfl ?_
        refine vv_imul 112 hk dX12_sucks_111 rfl ?_
        refine vv_iload_n (i := 2) 113 hk dX12_sucks_112 rfl rfl rfl ?_
        refine vv_iadd 114 hk dX12_sucks_113 rfl ?_
        refine vv_dup2 115 hk dX12_sucks_114 rfl rfl rfl ?_
        refine vv_iald 116 hk he dX12_sucks_115 rfl la_101 sd_101 (fun v12 => ?_)
        refine vv_iload 118 hk dX12_sucks_116 rfl rfl ?_
        refine vv_iadd 119 hk dX12_sucks_118 rfl ?_
        refine vv_iast 120 hk he dX12_sucks_119 rfl la_101 sd_101 (fun σ13 => ?_)
        refine vv_aload_n (i := 0) 121 hk dX12_sucks_120 rfl rfl rfl ?_
        refine vv_getR 124 hk dX12_sucks_121 rfl la_86 rfl ci_12 rfl fl_12_40 ?_
        refine vv_iload_n (i := 1) 125 hk dX12_sucks_124 rfl rfl rfl ?_
        refine vv_iald 126 hk he dX12_sucks_125 rfl la_97 sd_97 (fun v14 => ?_)
        refine vv_jn (fun t15 => (t15, 140, [some (rf G 86), some (.int a1), some (.int t1.1), none, none], [])) (fun t15 => ?_) (fun k140 hk140 => ?_)
        · skip
          refine vv_iinc 143 (fun x16 => [some (rf G 86), some (.int a1), some (.int x16), none, none]) hk dX12_sucks_140 rfl rfl ic_1 (fun _ => rfl) (fun x16 => ?_)
          refine vv_goto 2 hk dX12_sucks_143 rfl ?_
          exact vv_le (ll_s rfl (ll_s rfl (ll_s rfl (ll_n (ll_n ll_0))))) (hkl2 (x16, t15))
        · skip
          refine vv_if_ne 140 129 hk dX12_sucks_126 rfl rfl ?_ ?_
          · skip
            refine vv_aload_n (i := 0) 130 hk dX12_sucks_129 rfl rfl rfl ?_
            refine vv_getR 133 hk dX12_sucks_130 rfl la_86 rfl ci_12 rfl fl_12_58 ?_
            refine vv_iload_n (i := 2) 134 hk dX12_sucks_133 rfl rfl rfl ?_
            refine vv_dup2 135 hk dX12_sucks_134 rfl rfl rfl ?_
            refine vv_iald 136 hk he dX12_sucks_135 rfl la_103 sd_103 (fun v17 => ?_)
            refine vv_iload 138 hk dX12_sucks_136 rfl rfl ?_
            refine vv_iadd 139 hk dX12_sucks_138 rfl ?_
            refine vv_iast 140 hk he dX12_sucks_139 rfl la_103 sd_103 (fun σ18 => ?_)
            exact vv_le (ll_s rfl (ll_s rfl (ll_s rfl (ll_n (ll_n ll_0))))) (hk140 σ18)
          · skip
            exact vv_le (ll_s rfl (ll_s rfl (ll_s rfl (ll_n (ll_n ll_0))))) (hk140 σ13)
      · skip
        refine vv_if_le 94 63 hk dX12_sucks_60 rfl rfl ?_ ?_
        · skip
          exact vv_le (ll_s rfl (ll_s rfl (ll_s rfl (ll_s rfl (ll_s rfl ll_0))))) (hk94 t7)
        · skip
          refine vv_iload 65 hk dX12_sucks_63 rfl rfl ?_
          refine vv_aload_n (i := 0) 66 hk dX12_sucks_65 rfl rfl rfl ?_
          refine vv_getR 69 hk dX12_sucks_66 rfl la_86 rfl ci_12 rfl fl_12_40 ?_
          refine vv_iload_n (i := 1) 70 hk dX12_sucks_69 rfl rfl rfl ?_
          refine vv_iald 71 hk he dX12_sucks_70 rfl la_97 sd_97 (fun v19 => ?_)
          refine vv_aload_n (i := 0) 72 hk dX12_sucks_71 rfl rfl rfl ?_
          refine vv_iload_n (i := 1) 73 hk dX12_sucks_72 rfl rfl rfl ?_
          refine vv_invIr (st := [(.int v19), (.int t7)]) 76 hk he dX12_sucks_73 rfl ml_12_265 cf_X12_holds la_86 ci_12 (c_X12_holds G a1 t1.2) rfl rfl rfl rfl (fun v20 => ?_)
          refine vv_isub 77 hk dX12_sucks_76 rfl ?_
          refine vv_icmp_le 94 80 hk dX12_sucks_77 rfl rfl ?_ ?_
          · skip
            exact vv_le (ll_s rfl (ll_s rfl (ll_s rfl (ll_s rfl (ll_s rfl ll_0))))) (hk94 t7)
          · skip
            refine vv_aload_n (i := 0) 81 hk dX12_sucks_80 rfl rfl rfl ?_
            refine vv_getR 84 hk dX12_sucks_81 rfl la_86 rfl ci_12 rfl fl_12_40 ?_
            refine vv_iload_n (i := 1) 85 hk dX12_sucks_84 rfl rfl rfl ?_
            refine vv_iald 86 hk he dX12_sucks_85 rfl la_97 sd_97 (fun v21 => ?_)
            refine vv_aload_n (i := 0) 87 hk dX12_sucks_86 rfl rfl rfl ?_
            refine vv_iload_n (i := 1) 88 hk dX12_sucks_87 rfl rfl rfl ?_
            refine vv_invIr (st := [(.int v21)]) 91 hk he dX12_sucks_88 rfl ml_12_265 cf_X12_holds la_86 ci_12 (c_X12_holds G a1 t1.2) rfl rfl rfl rfl (fun v22 => ?_)
            refine vv_isub 92 hk dX12_sucks_91 rfl ?_
            refine vv_istoreL 94 (fun x23 => [some (rf G 86), some (.int a1), some (.int t1.1), some (.int x3), some (.int x23)]) hk dX12_sucks_92 rfl rfl (fun _ => rfl) (fun x23 => ?_)
            exact vv_le (ll_s rfl (ll_s rfl (ll_s rfl (ll_s rfl (ll_s rfl ll_0))))) (hk94 x23)
    · skip
      refine vv_icmp_le 54 46 hk dX12_sucks_43 rfl rfl ?_ ?_
      · skip
        exact vv_le (ll_s rfl (ll_s rfl (ll_s rfl (ll_s rfl (ll_s rfl ll_0))))) (hk54 v5)
      · skip
        refine vv_aload_n (i := 0) 47 hk dX12_sucks_46 rfl rfl rfl ?_
        refine vv_getR 50 hk dX12_sucks_47 rfl la_86 rfl ci_12 rfl fl_12_46 ?_
        refine vv_iload_n (i := 3) 51 hk dX12_sucks_50 rfl rfl rfl ?_
        refine vv_iald 52 hk he dX12_sucks_51 rfl la_99 sd_99 (fun v24 => ?_)
        refine vv_istore 54 [some (rf G 86), some (.int a1), some (.int t1.1), some (.int x3), some (.int v24)] hk dX12_sucks_52 rfl rfl rfl ?_
        exact vv_le (ll_s rfl (ll_s rfl (ll_s rfl (ll_s rfl (ll_s rfl ll_0))))) (hk54 v24)
theorem c_X12_passes (G : GT) (σ : Hp) : CtV G false yX12_passes cX12_passes 3 none 2 [(rf G 86)] (f_X12_passes σ) σ := by
  refine ctV (L0 := [some (rf G 86), none, none]) (by decide +kernel) rfl rfl rfl (fun κ hk he hret => ?_)
  have hk : KO G κ cX12_passes RX12 2 := hk
  refine vv_iconst 1 hk dX12_passes_0 rfl ic_0 ?_
  refine vv_istore_n (i := 1) 2 [some (rf G 86), some (.int (0 : Int32)), none] hk dX12_passes_1 rfl rfl rfl rfl ?_
  refine vv_jn (fun t1 => (t1, 78, [some (rf G 86), none, none], [])) (fun t1 => ?_) (fun k78 hk78 => ?_)
  · skip
    refine vv_iconst 79 hk dX12_passes_78 rfl ic_0 ?_
    refine vv_istore_n (i := 1) 80 [some (rf G 86), some (.int (0 : Int32)), none] hk dX12_passes_79 rfl rfl rfl rfl ?_
    refine vv_jn (fun t2 => (t2, 128, [some (rf G 86), none, none], [])) (fun t2 => ?_) (fun k128 hk128 => ?_)
    · skip
      refine vv_aload_n (i := 0) 129 hk dX12_passes_128 rfl rfl rfl ?_
      refine vv_invV (st := []) 132 hk he dX12_passes_129 rfl ml_12_270 cf_X12_flows la_86 ci_12 (c_X12_flows G t2) rfl rfl rfl rfl (fun σ3 => ?_)
      refine vv_iconst 133 hk dX12_passes_132 rfl ic_0 ?_
      refine vv_istore_n (i := 1) 134 [some (rf G 86), some (.int (0 : Int32)), none] hk dX12_passes_133 rfl rfl rfl rfl ?_
      refine vv_jn (fun t4 => (t4, 162, [some (rf G 86), none, none], [])) (fun t4 => ?_) (fun k162 hk162 => ?_)
      · skip
        refine vv_iconst 163 hk dX12_passes_162 rfl ic_0 ?_
        refine vv_istore_n (i := 1) 164 [some (rf G 86), some (.int (0 : Int32)), none] hk dX12_passes_163 rfl rfl rfl rfl ?_
        refine vv_jn (fun t5 => (t5, 192, [some (rf G 86), none, none], [])) (fun t5 => ?_) (fun k192 hk192 => ?_)
        · skip
          refine vv_aload_n (i := 0) 193 hk dX12_passes_192 rfl rfl rfl ?_
          refine vv_dup 194 hk dX12_passes_193 rfl rfl ?_
          refine vv_getI 197 hk he dX12_passes_194 rfl la_86 rfl ci_12 rfl fl_12_280 sd_86 ?_
          refine vv_iconst 198 hk dX12_passes_197 rfl ic_1 ?_
          refine vv_iadd 199 hk dX12_passes_198 rfl ?_
          refine vv_putI 202 hk he dX12_passes_199 rfl la_86 rfl ci_12 rfl fl_12_280 sd_86 rfl rfl (fun σ6 => ?_)
          exact hret _ _ _ dX12_passes_202
        · skip
          refine vv_lp (fun t7 => (t7.2, 164, [some (rf G 86), some (.int t7.1), none], [])) (fun kl164 hkl164 t7 => ?_) FU ((0 : Int32), t4)
          refine vv_iload_n (i := 1) 165 hk dX12_passes_164 rfl rfl rfl ?_
          refine vv_aload_n (i := 0) 166 hk dX12_passes_165 rfl rfl rfl ?_
          refine vv_getI 169 hk he dX12_passes_166 rfl la_86 rfl ci_12 rfl fl_12_217 sd_86 ?_
          refine vv_icmp_ge 192 172 hk dX12_passes_169 rfl rfl ?_ ?_
          · skip
            exact vv_le (ll_s rfl (ll_n (ll_n ll_0))) (hk192 t7.2)
          · skip
            refine vv_aload_n (i := 0) 173 hk dX12_passes_172 rfl rfl rfl ?_
            refine vv_getR 176 hk dX12_passes_173 rfl la_86 rfl ci_12 rfl fl_12_68 ?_
            refine vv_iload_n (i := 1) 177 hk dX12_passes_176 rfl rfl rfl ?_
            refine vv_zald 178 hk he dX12_passes_177 rfl la_106 sd_106 (fun v8 => ?_)
            refine vv_jn (fun t9 => (t9, 186, [some (rf G 86), some (.int t7.1), none], [])) (fun t9 => ?_) (fun k186 hk186 => ?_)
            · skip
              refine vv_iinc 189 (fun x10 => [some (rf G 86), some (.int x10), none]) hk dX12_passes_186 rfl rfl ic_1 (fun _ => rfl) (fun x10 => ?_)
              refine vv_goto 164 hk dX12_passes_189 rfl ?_
              exact vv_le (ll_s rfl (ll_s rfl (ll_n ll_0))) (hkl164 (x10, t9))
            · skip
              refine vv_if_eq 186 181 hk dX12_passes_178 rfl rfl ?_ ?_
              · skip
                exact vv_le (ll_s rfl (ll_s rfl (ll_n ll_0))) (hk186 t7.2)
              · skip
                refine vv_aload_n (i := 0) 182 hk dX12_passes_181 rfl rfl rfl ?_
                refine vv_iload_n (i := 1) 183 hk dX12_passes_182 rfl rfl rfl ?_
                refine vv_invV (st := []) 186 hk he dX12_passes_183 rfl ml_12_277 cf_X12_givesBack la_86 ci_12 (c_X12_givesBack G t7.1 t7.2) rfl rfl rfl rfl (fun σ11 => ?_)
                exact vv_le (ll_s rfl (ll_s rfl (ll_n ll_0))) (hk186 σ11)
      · skip
        refine vv_lp (fun t12 => (t12.2, 134, [some (rf G 86), some (.int t12.1), none], [])) (fun kl134 hkl134 t12 => ?_) FU ((0 : Int32), σ3)
        refine vv_iload_n (i := 1) 135 hk dX12_passes_134 rfl rfl rfl ?_
        refine vv_aload_n (i := 0) 136 hk dX12_passes_135 rfl rfl rfl ?_
        refine vv_getI 139 hk he dX12_passes_136 rfl la_86 rfl ci_12 rfl fl_12_217 sd_86 ?_
        refine vv_icmp_ge 162 142 hk dX12_passes_139 rfl rfl ?_ ?_
        · skip
          exact vv_le (ll_s rfl (ll_n (ll_n ll_0))) (hk162 t12.2)
        · skip
          refine vv_aload_n (i := 0) 143 hk dX12_passes_142 rfl rfl rfl ?_
          refine vv_getR 146 hk dX12_passes_143 rfl la_86 rfl ci_12 rfl fl_12_65 ?_
          refine vv_iload_n (i := 1) 147 hk dX12_passes_146 rfl rfl rfl ?_
          refine vv_zald 148 hk he dX12_passes_147 rfl la_105 sd_105 (fun v13 => ?_)
          refine vv_jn (fun t14 => (t14, 156, [some (rf G 86), some (.int t12.1), none], [])) (fun t14 => ?_) (fun k156 hk156 => ?_)
          · skip
            refine vv_iinc 159 (fun x15 => [some (rf G 86), some (.int x15), none]) hk dX12_passes_156 rfl rfl ic_1 (fun _ => rfl) (fun x15 => ?_)
            refine vv_goto 134 hk dX12_passes_159 rfl ?_
            exact vv_le (ll_s rfl (ll_s rfl (ll_n ll_0))) (hkl134 (x15, t14))
          · skip
            refine vv_if_eq 156 151 hk dX12_passes_148 rfl rfl ?_ ?_
            · skip
              exact vv_le (ll_s rfl (ll_s rfl (ll_n ll_0))) (hk156 t12.2)
            · skip
              refine vv_aload_n (i := 0) 152 hk dX12_passes_151 rfl rfl rfl ?_
              refine vv_iload_n (i := 1) 153 hk dX12_passes_152 rfl rfl rfl ?_
              refine vv_invV (st := []) 156 hk he dX12_passes_153 rfl ml_12_273 cf_X12_sucks la_86 ci_12 (c_X12_sucks G t12.1 t12.2) rfl rfl rfl rfl (fun σ16 => ?_)
              exact vv_le (ll_s rfl (ll_s rfl (ll_n ll_0))) (hk156 σ16)
    · skip
      refine vv_lp (fun t17 => (t17.2, 80, [some (rf G 86), some (.int t17.1), none], [])) (fun kl80 hkl80 t17 => ?_) FU ((0 : Int32), t1)
      refine vv_iload_n (i := 1) 81 hk dX12_passes_80 rfl rfl rfl ?_
      refine vv_iconst 82 hk dX12_passes_81 rfl ic_3 ?_
      refine vv_aload_n (i := 0) 83 hk dX12_passes_82 rfl rfl rfl ?_
      refine vv_getI 86 hk he dX12_passes_83 rfl la_86 rfl ci_12 rfl fl_12_210 sd_86 ?_
      refine vv_imul 87 hk dX12_passes_86 rfl ?_
      refine vv_icmp_ge 128 90 hk dX12_passes_87 rfl rfl ?_ ?_
      · skip
        exact vv_le (ll_s rfl (ll_n (ll_n ll_0))) (hk128 t17.2)
      · skip
        refine vv_aload_n (i := 0) 91 hk dX12_passes_90 rfl rfl rfl ?_
        refine vv_getR 94 hk dX12_passes_91 rfl la_86 rfl ci_12 rfl fl_12_46 ?_
        refine vv_iload_n (i := 1) 95 hk dX12_passes_94 rfl rfl rfl ?_
        refine vv_dup2 96 hk dX12_passes_95 rfl rfl rfl ?_
        refine vv_iald 97 hk he dX12_passes_96 rfl la_99 sd_99 (fun v18 => ?_)
        refine vv_aload_n (i := 0) 98 hk dX12_passes_97 rfl rfl rfl ?_
        refine vv_getR 101 hk dX12_passes_98 rfl la_86 rfl ci_12 rfl fl_12_43 ?_
        refine vv_iload_n (i := 1) 102 hk dX12_passes_101 rfl rfl rfl ?_
        refine vv_iald 103 hk he dX12_passes_102 rfl la_98 sd_98 (fun v19 => ?_)
        refine vv_iadd 104 hk dX12_passes_103 rfl ?_
        refine vv_iast 105 hk he dX12_passes_104 rfl la_99 sd_99 (fun σ20 => ?_)
        refine vv_aload_n (i := 0) 106 hk dX12_passes_105 rfl rfl rfl ?_
        refine vv_getR 109 hk dX12_passes_106 rfl la_86 rfl ci_12 rfl fl_12_55 ?_
        refine vv_iload_n (i := 1) 110 hk dX12_passes_109 rfl rfl rfl ?_
        refine vv_iconst 111 hk dX12_passes_110 rfl ic_3 ?_
        refine vv_irem 112 hk dX12_passes_111 rfl ?_
        refine vv_dup2 113 hk dX12_passes_112 rfl rfl rfl ?_
        refine vv_iald 114 hk he dX12_passes_113 rfl la_102 sd_102 (fun v21 => ?_)
        refine vv_aload_n (i := 0) 115 hk dX12_passes_114 rfl rfl rfl ?_
        refine vv_getR 118 hk dX12_passes_115 rfl la_86 rfl ci_12 rfl fl_12_43 ?_
        refine vv_iload_n (i := 1) 119 hk dX12_passes_118 rfl rfl rfl ?_
        refine vv_iald 120 hk he dX12_passes_119 rfl la_98 sd_98 (fun v22 => ?_)
        refine vv_iadd 121 hk dX12_passes_120 rfl ?_
        refine vv_iast 122 hk he dX12_passes_121 rfl la_102 sd_102 (fun σ23 => ?_)
        refine vv_iinc 125 (fun x24 => [some (rf G 86), some (.int x24), none]) hk dX12_passes_122 rfl rfl ic_1 (fun _ => rfl) (fun x24 => ?_)
        refine vv_goto 80 hk dX12_passes_125 rfl ?_
        exact vv_le (ll_s rfl (ll_s rfl (ll_n ll_0))) (hkl80 (x24, σ23))
  · skip
    refine vv_lp (fun t25 => (t25.2, 2, [some (rf G 86), some (.int t25.1), none], [])) (fun kl2 hkl2 t25 => ?_) FU ((0 : Int32), σ)
    refine vv_iload_n (i := 1) 3 hk dX12_passes_2 rfl rfl rfl ?_
    refine vv_iconst 4 hk dX12_passes_3 rfl ic_3 ?_
    refine vv_aload_n (i := 0) 5 hk dX12_passes_4 rfl rfl rfl ?_
    refine vv_getI 8 hk he dX12_passes_5 rfl la_86 rfl ci_12 rfl fl_12_210 sd_86 ?_
    refine vv_imul 9 hk dX12_passes_8 rfl ?_
    refine vv_icmp_ge 78 12 hk dX12_passes_9 rfl rfl ?_ ?_
    · skip
      exact vv_le (ll_s rfl (ll_n (ll_n ll_0))) (hk78 t25.2)
    · skip
      refine vv_aload_n (i := 0) 13 hk dX12_passes_12 rfl rfl rfl ?_
      refine vv_getR 16 hk dX12_passes_13 rfl la_86 rfl ci_12 rfl fl_12_49 ?_
      refine vv_iload_n (i := 1) 17 hk dX12_passes_16 rfl rfl rfl ?_
      refine vv_iald 18 hk he dX12_passes_17 rfl la_100 sd_100 (fun v26 => ?_)
      refine vv_i2l 19 hk dX12_passes_18 rfl ?_
      refine vv_aload_n (i := 0) 20 hk dX12_passes_19 rfl rfl rfl ?_
      refine vv_getR 23 hk dX12_passes_20 rfl la_86 rfl ci_12 rfl fl_12_22 ?_
      refine vv_bipush 25 hk dX12_passes_23 rfl bp_10 ?_
      refine vv_aload_n (i := 0) 26 hk dX12_passes_25 rfl rfl rfl ?_
      refine vv_getR 29 hk dX12_passes_26 rfl la_86 rfl ci_12 rfl fl_12_16 ?_
      refine vv_iload_n (i := 1) 30 hk dX12_passes_29 rfl rfl rfl ?_
      refine vv_iconst 31 hk dX12_passes_30 rfl ic_3 ?_
      refine vv_idiv 32 hk dX12_passes_31 rfl ?_
      refine vv_iald 33 hk he dX12_passes_32 rfl la_89 sd_89 (fun v27 => ?_)
      refine vv_imul 34 hk dX12_passes_33 rfl ?_
      refine vv_aload_n (i := 0) 35 hk dX12_passes_34 rfl rfl rfl ?_
      refine vv_getR 38 hk dX12_passes_35 rfl la_86 rfl ci_12 rfl fl_12_19 ?_
      refine vv_iload_n (i := 1) 39 hk dX12_passes_38 rfl rfl rfl ?_
      refine vv_iconst 40 hk dX12_passes_39 rfl ic_3 ?_
      refine vv_idiv 41 hk dX12_passes_40 rfl ?_
      refine vv_iald 42 hk he dX12_passes_41 rfl la_90 sd_90 (fun v28 => ?_)
      refine vv_iadd 43 hk dX12_passes_42 rfl ?_
      refine vv_iald 44 hk he dX12_passes_43 rfl la_91 sd_91 (fun v29 => ?_)
      refine vv_i2l 45 hk dX12_passes_44 rfl ?_
      refine vv_lmul 46 hk dX12_passes_45 rfl ?_
      refine vv_ldc2 49 hk dX12_passes_46 rfl cw_12_268 ?_
      refine vv_ldiv 50 hk dX12_passes_49 rfl ?_
      refine vv_l2i 51 hk dX12_passes_50 rfl ?_
      refine vv_istore_nL (i := 2) 52 (fun x30 => [some (rf G 86), some (.int t25.1), some (.int x30)]) hk dX12_passes_51 rfl rfl rfl (fun _ => rfl) (fun x30 => ?_)
      refine vv_aload_n (i := 0) 53 hk dX12_passes_52 rfl rfl rfl ?_
      refine vv_getR 56 hk dX12_passes_53 rfl la_86 rfl ci_12 rfl fl_12_49 ?_
      refine vv_iload_n (i := 1) 57 hk dX12_passes_56 rfl rfl rfl ?_
      refine vv_dup2 58 hk dX12_passes_57 rfl rfl rfl ?_
      refine vv_iald 59 hk he dX12_passes_58 rfl la_100 sd_100 (fun v31 => ?_)
      refine vv_iload_n (i := 2) 60 hk dX12_passes_59 rfl rfl rfl ?_
      refine vv_isub 61 hk dX12_passes_60 rfl ?_
      refine vv_iast 62 hk he dX12_passes_61 rfl la_100 sd_100 (fun σ32 => ?_)
      refine vv_aload_n (i := 0) 63 hk dX12_passes_62 rfl rfl rfl ?_
      refine vv_getR 66 hk dX12_passes_63 rfl la_86 rfl ci_12 rfl fl_12_46 ?_
      refine vv_iload_n (i := 1) 67 hk dX12_passes_66 rfl rfl rfl ?_
      refine vv_dup2 68 hk dX12_passes_67 rfl rfl rfl ?_
      refine vv_iald 69 hk he dX12_passes_68 rfl la_99 sd_99 (fun v33 => ?_)
      refine vv_iload_n (i := 2) 70 hk dX12_passes_69 rfl rfl rfl ?_
      refine vv_iadd 71 hk dX12_passes_70 rfl ?_
      refine vv_iast 72 hk he dX12_passes_71 rfl la_99 sd_99 (fun σ34 => ?_)
      refine vv_iinc 75 (fun x35 => [some (rf G 86), some (.int x35), some (.int x30)]) hk dX12_passes_72 rfl rfl ic_1 (fun _ => rfl) (fun x35 => ?_)
      refine vv_goto 2 hk dX12_passes_75 rfl ?_
      exact vv_le (ll_s rfl (ll_s rfl (ll_n ll_0))) (hkl2 (x35, σ34))
theorem c_X12_pipe (G : GT) (a1 : Int32) (a2 : Int32) (a3 : Int32) (σ : Hp) : CtI G false yX12_pipe cX12_pipe 5 (some .int) 1 [(rf G 86), (.int a1), (.int a2), (.int a3)] (f_X12_pipe a1 a2 a3 σ) σ := by
  refine ctI (L0 := [some (rf G 86), some (.int a1), some (.int a2), some (.int a3), none]) (by decide +kernel) rfl rfl rfl (fun κ hk he hret => ?_)
  have hk : KO G κ cX12_pipe RX12 1 := hk
  refine vv_aload_n (i := 0) 1 hk dX12_pipe_0 rfl rfl rfl ?_
  refine vv_iload_n (i := 1) 2 hk dX12_pipe_1 rfl rfl rfl ?_
  refine vv_invIr (st := []) 5 hk he dX12_pipe_2 rfl ml_12_238 cf_X12_isRoom la_86 ci_12 (c_X12_isRoom G a1 σ) rfl rfl rfl rfl (fun v1 => ?_)
  refine vv_jn (fun t2 => (σ, 21, [some (rf G 86), none, none, none, none], [])) (fun t2 => ?_) (fun k21 hk21 => ?_)
  · skip
    refine vv_aload_n (i := 0) 22 hk dX12_pipe_21 rfl rfl rfl ?_
    refine vv_iconst 23 hk dX12_pipe_22 rfl ic_m1 ?_
    refine vv_invI (st := []) 26 hk he dX12_pipe_23 rfl ml_12_226 cf_X12_no la_86 ci_12 (c_X12_no G (-1 : Int32) σ) rfl rfl rfl rfl (fun v3 σ4 => ?_)
    exact hret _ _ _ _ dX12_pipe_26
  · skip
    refine vv_if_eq 21 8 hk dX12_pipe_5 rfl rfl ?_ ?_
    · skip
      exact vv_le (ll_s rfl (ll_n (ll_n (ll_n (ll_n ll_0))))) (hk21 ())
    · skip
      refine vv_aload_n (i := 0) 9 hk dX12_pipe_8 rfl rfl rfl ?_
      refine vv_iload_n (i := 2) 10 hk dX12_pipe_9 rfl rfl rfl ?_
      refine vv_invIr (st := []) 13 hk he dX12_pipe_10 rfl ml_12_238 cf_X12_isRoom la_86 ci_12 (c_X12_isRoom G a2 σ) rfl rfl rfl rfl (fun v5 => ?_)
      refine vv_if_eq 21 16 hk dX12_pipe_13 rfl rfl ?_ ?_
      · skip
        exact vv_le (ll_s rfl (ll_n (ll_n (ll_n (ll_n ll_0))))) (hk21 ())
      · skip
        refine vv_iload_n (i := 1) 17 hk dX12_pipe_16 rfl rfl rfl ?_
        refine vv_iload_n (i := 2) 18 hk dX12_pipe_17 rfl rfl rfl ?_
        refine vv_icmp_ne 27 21 hk dX12_pipe_18 rfl rfl ?_ ?_
        · skip
          exact vv_le (ll_s rfl (ll_n (ll_n (ll_n (ll_n ll_0))))) (hk21 ())
        · skip
          refine vv_iload_n (i := 3) 28 hk dX12_pipe_27 rfl rfl rfl ?_
          refine vv_i2l 29 hk dX12_pipe_28 rfl ?_
          refine vv_lconst 30 hk dX12_pipe_29 rfl lc_1 ?_
          refine vv_ldc2 33 hk dX12_pipe_30 rfl cw_12_242 ?_
          refine vv_staIr (st := []) 36 hk he dX12_pipe_33 rfl ml_12_232 sf_X12_out (c_X12_out G a3.toInt64 (1 : Int64) (9 : Int64) σ) rfl rfl rfl rfl (fun v6 => ?_)
          refine vv_istore 38 [some (rf G 86), some (.int a1), some (.int a2), some (.int a3), some (.int v6)] hk dX12_pipe_36 rfl rfl rfl ?_
          refine vv_iload 40 hk dX12_pipe_38 rfl rfl ?_
          refine vv_jn (fun t7 => (σ, 56, [some (rf G 86), some (.int a1), some (.int a2), some (.int a3), some (.int t7)], [])) (fun t7 => ?_) (fun k56 hk56 => ?_)
          · skip
            refine vv_iload 58 hk dX12_pipe_56 rfl rfl ?_
            refine vv_if_eq 68 61 hk dX12_pipe_58 rfl rfl ?_ ?_
            · skip
              refine vv_aload_n (i := 0) 69 hk dX12_pipe_68 rfl rfl rfl ?_
              refine vv_invV (st := []) 72 hk he dX12_pipe_69 rfl ml_12_235 cf_X12_forgets la_86 ci_12 (c_X12_forgets G σ) rfl rfl rfl rfl (fun σ8 => ?_)
              refine vv_aload_n (i := 0) 73 hk dX12_pipe_72 rfl rfl rfl ?_
              refine vv_getR 76 hk dX12_pipe_73 rfl la_86 rfl ci_12 rfl fl_12_25 ?_
              refine vv_aload_n (i := 0) 77 hk dX12_pipe_76 rfl rfl rfl ?_
              refine vv_getI 80 hk he dX12_pipe_77 rfl la_86 rfl ci_12 rfl fl_12_214 sd_86 ?_
              refine vv_iload_n (i := 1) 81 hk dX12_pipe_80 rfl rfl rfl ?_
              refine vv_iast 82 hk he dX12_pipe_81 rfl la_92 sd_92 (fun σ9 => ?_)
              refine vv_aload_n (i := 0) 83 hk dX12_pipe_82 rfl rfl rfl ?_
              refine vv_getR 86 hk dX12_pipe_83 rfl la_86 rfl ci_12 rfl fl_12_28 ?_
              refine vv_aload_n (i := 0) 87 hk dX12_pipe_86 rfl rfl rfl ?_
              refine vv_getI 90 hk he dX12_pipe_87 rfl la_86 rfl ci_12 rfl fl_12_214 sd_86 ?_
              refine vv_iload_n (i := 2) 91 hk dX12_pipe_90 rfl rfl rfl ?_
              refine vv_iast 92 hk he dX12_pipe_91 rfl la_93 sd_93 (fun σ10 => ?_)
              refine vv_aload_n (i := 0) 93 hk dX12_pipe_92 rfl rfl rfl ?_
              refine vv_getR 96 hk dX12_pipe_93 rfl la_86 rfl ci_12 rfl fl_12_31 ?_
              refine vv_aload_n (i := 0) 97 hk dX12_pipe_96 rfl rfl rfl ?_
              refine vv_getI 100 hk he dX12_pipe_97 rfl la_86 rfl ci_12 rfl fl_12_214 sd_86 ?_
              refine vv_iload_n (i := 3) 101 hk dX12_pipe_100 rfl rfl rfl ?_
              refine vv_iast 102 hk he dX12_pipe_101 rfl la_94 sd_94 (fun σ11 => ?_)
              refine vv_aload_n (i := 0) 103 hk dX12_pipe_102 rfl rfl rfl ?_
              refine vv_dup 104 hk dX12_pipe_103 rfl rfl ?_
              refine vv_getI 107 hk he dX12_pipe_104 rfl la_86 rfl ci_12 rfl fl_12_214 sd_86 ?_
              refine vv_iconst 108 hk dX12_pipe_107 rfl ic_1 ?_
              refine vv_iadd 109 hk dX12_pipe_108 rfl ?_
              refine vv_putI 112 hk he dX12_pipe_109 rfl la_86 rfl ci_12 rfl fl_12_214 sd_86 rfl rfl (fun σ12 => ?_)
              refine vv_aload_n (i := 0) 113 hk dX12_pipe_112 rfl rfl rfl ?_
              refine vv_getI 116 hk he dX12_pipe_113 rfl la_86 rfl ci_12 rfl fl_12_214 sd_86 ?_
              refine vv_iconst 117 hk dX12_pipe_116 rfl ic_1 ?_
              refine vv_isub 118 hk dX12_pipe_117 rfl ?_
              exact hret _ _ _ _ dX12_pipe_118
            · skip
              refine vv_aload_n (i := 0) 62 hk dX12_pipe_61 rfl rfl rfl ?_
              refine vv_iload 64 hk dX12_pipe_62 rfl rfl ?_
              refine vv_invI (st := []) 67 hk he dX12_pipe_64 rfl ml_12_226 cf_X12_no la_86 ci_12 (c_X12_no G t7 σ) rfl rfl rfl rfl (fun v13 σ14 => ?_)
              exact hret _ _ _ _ dX12_pipe_67
          · skip
            refine vv_if_ne 56 43 hk dX12_pipe_40 rfl rfl ?_ ?_
            · skip
              refine vv_aload_n (i := 0) 44 hk dX12_pipe_43 rfl rfl rfl ?_
              refine vv_getI 47 hk he dX12_pipe_44 rfl la_86 rfl ci_12 rfl fl_12_214 sd_86 ?_
              refine vv_bipush 49 hk dX12_pipe_47 rfl bp_12 ?_
              refine vv_icmp_ne 56 52 hk dX12_pipe_49 rfl rfl ?_ ?_
              · skip
                refine vv_bipush 54 hk dX12_pipe_52 rfl bp_m6 ?_
                refine vv_istore 56 [some (rf G 86), some (.int a1), some (.int a2), some (.int a3), some (.int (-6 : Int32))] hk dX12_pipe_54 rfl rfl rfl ?_
                exact vv_le (ll_s rfl (ll_s rfl (ll_s rfl (ll_s rfl (ll_s rfl ll_0))))) (hk56 (-6 : Int32))
              · skip
                exact vv_le (ll_s rfl (ll_s rfl (ll_s rfl (ll_s rfl (ll_s rfl ll_0))))) (hk56 v6)
            · skip
              exact vv_le (ll_s rfl (ll_s rfl (ll_s rfl (ll_s rfl (ll_s rfl ll_0))))) (hk56 v6)
theorem c_X12_plan (G : GT) (a1 : Int32) (a2 : Int32) (σ : Hp) : CtI G false yX12_plan cX12_plan 9 (some .int) 4 [(rf G 86), (.int a1), (.int a2)] (f_X12_plan a1 a2 σ) σ := by
  refine ctI (L0 := [some (rf G 86), some (.int a1), some (.int a2), none, none, none, none, none, none]) (by decide +kernel) rfl rfl rfl (fun κ hk he hret => ?_)
  have hk : KO G κ cX12_plan RX12 4 := hk
  refine vv_iload_n (i := 2) 1 hk dX12_plan_0 rfl rfl rfl ?_
  refine vv_i2l 2 hk dX12_plan_1 rfl ?_
  refine vv_lconst 3 hk dX12_plan_2 rfl lc_0 ?_
  refine vv_lconst 4 hk dX12_plan_3 rfl lc_1 ?_
  refine vv_staIr (st := []) 7 hk he dX12_plan_4 rfl ml_12_222 sf_X12_isIn (c_X12_isIn G a2.toInt64 (0 : Int64) (1 : Int64) σ) rfl rfl rfl rfl (fun v1 => ?_)
  refine vv_if_ne 17 10 hk dX12_plan_7 rfl rfl ?_ ?_
  · skip
    refine vv_aload_n (i := 0) 11 hk dX12_plan_10 rfl rfl rfl ?_
    refine vv_bipush 13 hk dX12_plan_11 rfl bp_m2 ?_
    refine vv_invI (st := []) 16 hk he dX12_plan_13 rfl ml_12_226 cf_X12_no la_86 ci_12 (c_X12_no G (-2 : Int32) σ) rfl rfl rfl rfl (fun v2 σ3 => ?_)
    exact hret _ _ _ _ dX12_plan_16
  · skip
    refine vv_iload_n (i := 1) 18 hk dX12_plan_17 rfl rfl rfl ?_
    refine vv_i2l 19 hk dX12_plan_18 rfl ?_
    refine vv_lconst 20 hk dX12_plan_19 rfl lc_0 ?_
    refine vv_ldc2 23 hk dX12_plan_20 rfl cw_12_428 ?_
    refine vv_staIr (st := []) 26 hk he dX12_plan_23 rfl ml_12_232 sf_X12_out (c_X12_out G a1.toInt64 (0 : Int64) (9999 : Int64) σ) rfl rfl rfl rfl (fun v4 => ?_)
    refine vv_istore_n (i := 3) 27 [some (rf G 86), some (.int a1), some (.int a2), some (.int v4), none, none, none, none, none] hk dX12_plan_26 rfl rfl rfl rfl ?_
    refine vv_iload_n (i := 3) 28 hk dX12_plan_27 rfl rfl rfl ?_
    refine vv_if_eq 37 31 hk dX12_plan_28 rfl rfl ?_ ?_
    · skip
      refine vv_iconst 38 hk dX12_plan_37 rfl ic_m1 ?_
      refine vv_istore 40 [some (rf G 86), some (.int a1), some (.int a2), some (.int v4), some (.int (-1 : Int32)), none, none, none, none] hk dX12_plan_38 rfl rfl rfl ?_
      refine vv_iconst 41 hk dX12_plan_40 rfl ic_0 ?_
      refine vv_istore 43 [some (rf G 86), some (.int a1), some (.int a2), some (.int v4), some (.int (-1 : Int32)), some (.int (0 : Int32)), none, none, none] hk dX12_plan_41 rfl rfl rfl ?_
      refine vv_iconst 44 hk dX12_plan_43 rfl ic_0 ?_
      refine vv_istore 46 [some (rf G 86), some (.int a1), some (.int a2), some (.int v4), some (.int (-1 : Int32)), some (.int (0 : Int32)), some (.int (0 : Int32)), none, none] hk dX12_plan_44 rfl rfl rfl ?_
      refine vv_jn (fun t5 => (t5.2.2, 137, [some (rf G 86), none, some (.int a2), none, some (.int t5.1), some (.int t5.2.1), none, none, none], [])) (fun t5 => ?_) (fun k137 hk137 => ?_)
      · skip
        refine vv_iload 139 hk dX12_plan_137 rfl rfl ?_
        refine vv_jn (fun t6 => (t5.2.2, 158, [some (rf G 86), none, none, none, none, none, none, none, none], [(.int t6)])) (fun t6 => ?_) (fun k158 hk158 => ?_)
        · skip
          exact hret _ _ _ _ dX12_plan_158
        · skip
          refine vv_if_ge 147 142 hk dX12_plan_139 rfl rfl ?_ ?_
          · skip
            refine vv_iload_n (i := 2) 148 hk dX12_plan_147 rfl rfl rfl ?_
            refine vv_if_ne 156 151 hk dX12_plan_148 rfl rfl ?_ ?_
            · skip
              refine vv_iload 153 hk dX12_plan_151 rfl rfl ?_
              refine vv_goto 158 hk dX12_plan_153 rfl ?_
              exact vv_le (ll_s rfl (ll_n (ll_n (ll_n (ll_n (ll_n (ll_n (ll_n (ll_n ll_0))))))))) (hk158 t5.2.1)
            · skip
              refine vv_iload 158 hk dX12_plan_156 rfl rfl ?_
              exact vv_le (ll_s rfl (ll_n (ll_n (ll_n (ll_n (ll_n (ll_n (ll_n (ll_n ll_0))))))))) (hk158 t5.1)
          · skip
            refine vv_bipush 144 hk dX12_plan_142 rfl bp_m9 ?_
            refine vv_goto 158 hk dX12_plan_144 rfl ?_
            exact vv_le (ll_s rfl (ll_n (ll_n (ll_n (ll_n (ll_n (ll_n (ll_n (ll_n ll_0))))))))) (hk158 (-9 : Int32))
      · skip
        refine vv_le (L' := [some (rf G 86), some (.int a1), some (.int a2), none, some (.int (-1 : Int32)), some (.int (0 : Int32)), some (.int (0 : Int32)), none, none]) (ll_s rfl (ll_s rfl (ll_s rfl (ll_n (ll_s rfl (ll_s rfl (ll_s rfl (ll_n (ll_n ll_0))))))))) ?_
        refine vv_lp (fun t7 => (t7.2.2.2, 46, [some (rf G 86), some (.int a1), some (.int a2), none, some (.int t7.1), some (.int t7.2.1), some (.int t7.2.2.1), none, none], [])) (fun kl46 hkl46 t7 => ?_) FU ((-1 : Int32), (0 : Int32), (0 : Int32), σ)
        refine vv_iload 48 hk dX12_plan_46 rfl rfl ?_
        refine vv_iconst 49 hk dX12_plan_48 rfl ic_1 ?_
        refine vv_aload_n (i := 0) 50 hk dX12_plan_49 rfl rfl rfl ?_
        refine vv_getI 53 hk he dX12_plan_50 rfl la_86 rfl ci_12 rfl fl_12_459 sd_86 ?_
        refine vv_ishl 54 hk dX12_plan_53 rfl ?_
        refine vv_icmp_ge 137 57 hk dX12_plan_54 rfl rfl ?_ ?_
        · skip
          exact vv_le (ll_s rfl (ll_n (ll_s rfl (ll_n (ll_s rfl (ll_s rfl (ll_n (ll_n (ll_n ll_0))))))))) (hk137 (t7.1, t7.2.1, t7.2.2.2))
        · skip
          refine vv_iconst 58 hk dX12_plan_57 rfl ic_0 ?_
          refine vv_istore 60 [some (rf G 86), some (.int a1), some (.int a2), none, some (.int t7.1), some (.int t7.2.1), some (.int t7.2.2.1), some (.int (0 : Int32)), none] hk dX12_plan_58 rfl rfl rfl ?_
          refine vv_iconst 61 hk dX12_plan_60 rfl ic_0 ?_
          refine vv_istore 63 [some (rf G 86), some (.int a1), some (.int a2), none, some (.int t7.1), some (.int t7.2.1), some (.int t7.2.2.1), some (.int (0 : Int32)), some (.int (0 : Int32))] hk dX12_plan_61 rfl rfl rfl ?_
          refine vv_jn (fun t8 => (t7.2.2.2, 98, [some (rf G 86), some (.int a1), some (.int a2), none, some (.int t7.1), some (.int t7.2.1), some (.int t7.2.2.1), some (.int t8), none], [])) (fun t8 => ?_) (fun k98 hk98 => ?_)
          · skip
            refine vv_iload 100 hk dX12_plan_98 rfl rfl ?_
            refine vv_jn (fun t9 => (t9.2.2, 131, [some (rf G 86), some (.int a1), some (.int a2), none, some (.int t9.1), some (.int t9.2.1), some (.int t7.2.2.1), none, none], [])) (fun t9 => ?_) (fun k131 hk131 => ?_)
            · skip
              refine vv_iinc 134 (fun x10 => [some (rf G 86), some (.int a1), some (.int a2), none, some (.int t9.1), some (.int t9.2.1), some (.int x10), none, none]) hk dX12_plan_131 rfl rfl ic_1 (fun _ => rfl) (fun x10 => ?_)
              refine vv_goto 46 hk dX12_plan_134 rfl ?_
              exact vv_le (ll_s rfl (ll_s rfl (ll_s rfl (ll_n (ll_s rfl (ll_s rfl (ll_s rfl (ll_n (ll_n ll_0))))))))) (hkl46 (t9.1, t9.2.1, x10, t9.2.2))
            · skip
              refine vv_jn (fun t11 => (t7.2.2.2, 110, [some (rf G 86), some (.int a1), some (.int a2), none, some (.int t7.1), some (.int t7.2.1), some (.int t7.2.2.1), some (.int t8), none], [])) (fun t11 => ?_) (fun k110 hk110 => ?_)
              · skip
                refine vv_aload_n (i := 0) 111 hk dX12_plan_110 rfl rfl rfl ?_
                refine vv_iload 113 hk dX12_plan_111 rfl rfl ?_
                refine vv_iload_n (i := 1) 114 hk dX12_plan_113 rfl rfl rfl ?_
                refine vv_invI (st := []) 117 hk he dX12_plan_114 rfl ml_12_465 cf_X12_holdsDown la_86 ci_12 (c_X12_holdsDown G t7.2.2.1 a1 t7.2.2.2) rfl rfl rfl rfl (fun v12 σ13 => ?_)
                refine vv_if_ne 123 120 hk dX12_plan_117 rfl rfl ?_ ?_
                · skip
                  refine vv_goto 131 hk dX12_plan_120 rfl ?_
                  exact vv_le (ll_s rfl (ll_s rfl (ll_s rfl (ll_n (ll_s rfl (ll_s rfl (ll_s rfl (ll_n (ll_n ll_0))))))))) (hk131 (t7.1, t7.2.1, σ13))
                · skip
                  refine vv_iload 125 hk dX12_plan_123 rfl rfl ?_
                  refine vv_istore 127 [some (rf G 86), some (.int a1), some (.int a2), none, some (.int t7.2.2.1), some (.int t7.2.1), some (.int t7.2.2.1), some (.int t8), none] hk dX12_plan_125 rfl rfl rfl ?_
                  refine vv_iload 129 hk dX12_plan_127 rfl rfl ?_
                  refine vv_istore 131 [some (rf G 86), some (.int a1), some (.int a2), none, some (.int t7.2.2.1), some (.int t8), some (.int t7.2.2.1), some (.int t8), none] hk dX12_plan_129 rfl rfl rfl ?_
                  exact vv_le (ll_s rfl (ll_s rfl (ll_s rfl (ll_n (ll_s rfl (ll_s rfl (ll_s rfl (ll_n (ll_n ll_0))))))))) (hk131 (t7.2.2.1, t8, σ13))
              · skip
                refine vv_if_lt 110 103 hk dX12_plan_100 rfl rfl ?_ ?_
                · skip
                  exact vv_le (ll_s rfl (ll_s rfl (ll_s rfl (ll_n (ll_s rfl (ll_s rfl (ll_s rfl (ll_s rfl (ll_n ll_0))))))))) (hk110 ())
                · skip
                  refine vv_iload 105 hk dX12_plan_103 rfl rfl ?_
                  refine vv_iload 107 hk dX12_plan_105 rfl rfl ?_
                  refine vv_icmp_ge 131 110 hk dX12_plan_107 rfl rfl ?_ ?_
                  · skip
                    exact vv_le (ll_s rfl (ll_s rfl (ll_s rfl (ll_n (ll_s rfl (ll_s rfl (ll_s rfl (ll_n (ll_n ll_0))))))))) (hk131 (t7.1, t7.2.1, t7.2.2.2))
                  · skip
                    exact vv_le (ll_s rfl (ll_s rfl (ll_s rfl (ll_n (ll_s rfl (ll_s rfl (ll_s rfl (ll_s rfl (ll_n ll_0))))))))) (hk110 ())
          · skip
            refine vv_lp (fun t14 => (t7.2.2.2, 63, [some (rf G 86), some (.int a1), some (.int a2), none, some (.int t7.1), some (.int t7.2.1), some (.int t7.2.2.1), some (.int t14.1), some (.int t14.2)], [])) (fun kl63 hkl63 t14 => ?_) FU ((0 : Int32), (0 : Int32))
            refine vv_iload 65 hk dX12_plan_63 rfl rfl ?_
            refine vv_aload_n (i := 0) 66 hk dX12_plan_65 rfl rfl rfl ?_
            refine vv_getI 69 hk he dX12_plan_66 rfl la_86 rfl ci_12 rfl fl_12_459 sd_86 ?_
            refine vv_icmp_ge 98 72 hk dX12_plan_69 rfl rfl ?_ ?_
            · skip
              exact vv_le (ll_s rfl (ll_s rfl (ll_s rfl (ll_n (ll_s rfl (ll_s rfl (ll_s rfl (ll_s rfl (ll_n ll_0))))))))) (hk98 t14.1)
            · skip
              refine vv_iload 74 hk dX12_plan_72 rfl rfl ?_
              refine vv_iload 76 hk dX12_plan_74 rfl rfl ?_
              refine vv_iload 78 hk dX12_plan_76 rfl rfl ?_
              refine vv_ishr 79 hk dX12_plan_78 rfl ?_
              refine vv_iconst 80 hk dX12_plan_79 rfl ic_1 ?_
              refine vv_iand 81 hk dX12_plan_80 rfl ?_
              refine vv_aload_n (i := 0) 82 hk dX12_plan_81 rfl rfl rfl ?_
              refine vv_getR 85 hk dX12_plan_82 rfl la_86 rfl ci_12 rfl fl_12_204 ?_
              refine vv_iload 87 hk dX12_plan_85 rfl rfl ?_
              refine vv_iald 88 hk he dX12_plan_87 rfl la_151 sd_151 (fun v15 => ?_)
              refine vv_imul 89 hk dX12_plan_88 rfl ?_
              refine vv_iadd 90 hk dX12_plan_89 rfl ?_
              refine vv_istoreL 92 (fun x16 => [some (rf G 86), some (.int a1), some (.int a2), none, some (.int t7.1), some (.int t7.2.1), some (.int t7.2.2.1), some (.int x16), some (.int t14.2)]) hk dX12_plan_90 rfl rfl (fun _ => rfl) (fun x16 => ?_)
              refine vv_iinc 95 (fun x17 => [some (rf G 86), some (.int a1), some (.int a2), none, some (.int t7.1), some (.int t7.2.1), some (.int t7.2.2.1), some (.int x16), some (.int x17)]) hk dX12_plan_92 rfl rfl ic_1 (fun _ => rfl) (fun x17 => ?_)
              refine vv_goto 63 hk dX12_plan_95 rfl ?_
              exact vv_le (ll_s rfl (ll_s rfl (ll_s rfl (ll_n (ll_s rfl (ll_s rfl (ll_s rfl (ll_s rfl (ll_s rfl ll_0))))))))) (hkl63 (x16, x17))
    · skip
      refine vv_aload_n (i := 0) 32 hk dX12_plan_31 rfl rfl rfl ?_
      refine vv_iload_n (i := 3) 33 hk dX12_plan_32 rfl rfl rfl ?_
      refine vv_invI (st := []) 36 hk he dX12_plan_33 rfl ml_12_226 cf_X12_no la_86 ci_12 (c_X12_no G v4 σ) rfl rfl rfl rfl (fun v18 σ19 => ?_)
      exact hret _ _ _ _ dX12_plan_36
theorem c_X12_pump (G : GT) (a1 : Int32) (a2 : Int32) (a3 : Int32) (a4 : Int32) (a5 : Int32) (σ : Hp) : CtI G false yX12_pump cX12_pump 7 (some .int) 1 [(rf G 86), (.int a1), (.int a2), (.int a3), (.int a4), (.int a5)] (f_X12_pump a1 a2 a3 a4 a5 σ) σ := by
  refine ctI (L0 := [some (rf G 86), some (.int a1), some (.int a2), some (.int a3), some (.int a4), some (.int a5), none]) (by decide +kernel) rfl rfl rfl (fun κ hk he hret => ?_)
  have hk : KO G κ cX12_pump RX12 1 := hk
  refine vv_aload_n (i := 0) 1 hk dX12_pump_0 rfl rfl rfl ?_
  refine vv_iload_n (i := 1) 2 hk dX12_pump_1 rfl rfl rfl ?_
  refine vv_invIr (st := []) 5 hk he dX12_pump_2 rfl ml_12_238 cf_X12_isRoom la_86 ci_12 (c_X12_isRoom G a1 σ) rfl rfl rfl rfl (fun v1 => ?_)
  refine vv_if_ne 14 8 hk dX12_pump_5 rfl rfl ?_ ?_
  · skip
    refine vv_aload_n (i := 0) 9 hk dX12_pump_8 rfl rfl rfl ?_
    refine vv_iconst 10 hk dX12_pump_9 rfl ic_m1 ?_
    refine vv_invI (st := []) 13 hk he dX12_pump_10 rfl ml_12_226 cf_X12_no la_86 ci_12 (c_X12_no G (-1 : Int32) σ) rfl rfl rfl rfl (fun v2 σ3 => ?_)
    exact hret _ _ _ _ dX12_pump_13
  · skip
    refine vv_iload_n (i := 2) 15 hk dX12_pump_14 rfl rfl rfl ?_
    refine vv_jn (fun t4 => (σ, 78, [some (rf G 86), some (.int a1), some (.int a2), some (.int a3), some (.int a4), some (.int a5), none], [(.int t4)])) (fun t4 => ?_) (fun k78 hk78 => ?_)
    · skip
      refine vv_istore 80 [some (rf G 86), some (.int a1), some (.int a2), some (.int a3), some (.int a4), some (.int a5), some (.int t4)] hk dX12_pump_78 rfl rfl rfl ?_
      refine vv_iload 82 hk dX12_pump_80 rfl rfl ?_
      refine vv_if_eq 92 85 hk dX12_pump_82 rfl rfl ?_ ?_
      · skip
        refine vv_aload_n (i := 0) 93 hk dX12_pump_92 rfl rfl rfl ?_
        refine vv_invV (st := []) 96 hk he dX12_pump_93 rfl ml_12_235 cf_X12_forgets la_86 ci_12 (c_X12_forgets G σ) rfl rfl rfl rfl (fun σ5 => ?_)
        refine vv_aload_n (i := 0) 97 hk dX12_pump_96 rfl rfl rfl ?_
        refine vv_getR 100 hk dX12_pump_97 rfl la_86 rfl ci_12 rfl fl_12_34 ?_
        refine vv_aload_n (i := 0) 101 hk dX12_pump_100 rfl rfl rfl ?_
        refine vv_getI 104 hk he dX12_pump_101 rfl la_86 rfl ci_12 rfl fl_12_217 sd_86 ?_
        refine vv_iload_n (i := 1) 105 hk dX12_pump_104 rfl rfl rfl ?_
        refine vv_iast 106 hk he dX12_pump_105 rfl la_95 sd_95 (fun σ6 => ?_)
        refine vv_aload_n (i := 0) 107 hk dX12_pump_106 rfl rfl rfl ?_
        refine vv_getR 110 hk dX12_pump_107 rfl la_86 rfl ci_12 rfl fl_12_37 ?_
        refine vv_iconst 111 hk dX12_pump_110 rfl ic_3 ?_
        refine vv_aload_n (i := 0) 112 hk dX12_pump_111 rfl rfl rfl ?_
        refine vv_getI 115 hk he dX12_pump_112 rfl la_86 rfl ci_12 rfl fl_12_217 sd_86 ?_
        refine vv_imul 116 hk dX12_pump_115 rfl ?_
        refine vv_iload_n (i := 2) 117 hk dX12_pump_116 rfl rfl rfl ?_
        refine vv_iast 118 hk he dX12_pump_117 rfl la_96 sd_96 (fun σ7 => ?_)
        refine vv_aload_n (i := 0) 119 hk dX12_pump_118 rfl rfl rfl ?_
        refine vv_getR 122 hk dX12_pump_119 rfl la_86 rfl ci_12 rfl fl_12_37 ?_
        refine vv_iconst 123 hk dX12_pump_122 rfl ic_3 ?_
        refine vv_aload_n (i := 0) 124 hk dX12_pump_123 rfl rfl rfl ?_
        refine vv_getI 127 hk he dX12_pump_124 rfl la_86 rfl ci_12 rfl fl_12_217 sd_86 ?_
        refine vv_imul 128 hk dX12_pump_127 rfl ?_
        refine vv_iconst 129 hk dX12_pump_128 rfl ic_1 ?_
        refine vv_iadd 130 hk dX12_pump_129 rfl ?_
        refine vv_iload_n (i := 3) 131 hk dX12_pump_130 rfl rfl rfl ?_
        refine vv_iast 132 hk he dX12_pump_131 rfl la_96 sd_96 (fun σ8 => ?_)
        refine vv_aload_n (i := 0) 133 hk dX12_pump_132 rfl rfl rfl ?_
        refine vv_getR 136 hk dX12_pump_133 rfl la_86 rfl ci_12 rfl fl_12_37 ?_
        refine vv_iconst 137 hk dX12_pump_136 rfl ic_3 ?_
        refine vv_aload_n (i := 0) 138 hk dX12_pump_137 rfl rfl rfl ?_
        refine vv_getI 141 hk he dX12_pump_138 rfl la_86 rfl ci_12 rfl fl_12_217 sd_86 ?_
        refine vv_imul 142 hk dX12_pump_141 rfl ?_
        refine vv_iconst 143 hk dX12_pump_142 rfl ic_2 ?_
        refine vv_iadd 144 hk dX12_pump_143 rfl ?_
        refine vv_iload 146 hk dX12_pump_144 rfl rfl ?_
        refine vv_iast 147 hk he dX12_pump_146 rfl la_96 sd_96 (fun σ9 => ?_)
        refine vv_aload_n (i := 0) 148 hk dX12_pump_147 rfl rfl rfl ?_
        refine vv_getR 151 hk dX12_pump_148 rfl la_86 rfl ci_12 rfl fl_12_40 ?_
        refine vv_aload_n (i := 0) 152 hk dX12_pump_151 rfl rfl rfl ?_
        refine vv_getI 155 hk he dX12_pump_152 rfl la_86 rfl ci_12 rfl fl_12_217 sd_86 ?_
        refine vv_iload 157 hk dX12_pump_155 rfl rfl ?_
        refine vv_iast 158 hk he dX12_pump_157 rfl la_97 sd_97 (fun σ10 => ?_)
        refine vv_aload_n (i := 0) 159 hk dX12_pump_158 rfl rfl rfl ?_
        refine vv_dup 160 hk dX12_pump_159 rfl rfl ?_
        refine vv_getI 163 hk he dX12_pump_160 rfl la_86 rfl ci_12 rfl fl_12_217 sd_86 ?_
        refine vv_iconst 164 hk dX12_pump_163 rfl ic_1 ?_
        refine vv_iadd 165 hk dX12_pump_164 rfl ?_
        refine vv_putI 168 hk he dX12_pump_165 rfl la_86 rfl ci_12 rfl fl_12_217 sd_86 rfl rfl (fun σ11 => ?_)
        refine vv_aload_n (i := 0) 169 hk dX12_pump_168 rfl rfl rfl ?_
        refine vv_getI 172 hk he dX12_pump_169 rfl la_86 rfl ci_12 rfl fl_12_217 sd_86 ?_
        refine vv_iconst 173 hk dX12_pump_172 rfl ic_1 ?_
        refine vv_isub 174 hk dX12_pump_173 rfl ?_
        exact hret _ _ _ _ dX12_pump_174
      · skip
        refine vv_aload_n (i := 0) 86 hk dX12_pump_85 rfl rfl rfl ?_
        refine vv_iload 88 hk dX12_pump_86 rfl rfl ?_
        refine vv_invI (st := []) 91 hk he dX12_pump_88 rfl ml_12_226 cf_X12_no la_86 ci_12 (c_X12_no G t4 σ) rfl rfl rfl rfl (fun v12 σ13 => ?_)
        exact hret _ _ _ _ dX12_pump_91
    · skip
      refine vv_jn (fun t14 => (σ, 32, [some (rf G 86), some (.int a1), some (.int a2), some (.int a3), some (.int a4), some (.int a5), none], [])) (fun t14 => ?_) (fun k32 hk32 => ?_)
      · skip
        refine vv_bipush 34 hk dX12_pump_32 rfl bp_m4 ?_
        refine vv_goto 78 hk dX12_pump_34 rfl ?_
        exact vv_le (ll_s rfl (ll_s rfl (ll_s rfl (ll_s rfl (ll_s rfl (ll_s rfl (ll_n ll_0))))))) (hk78 (-4 : Int32))
      · skip
        refine vv_if_lt 32 18 hk dX12_pump_15 rfl rfl ?_ ?_
        · skip
          exact vv_le (ll_s rfl (ll_s rfl (ll_s rfl (ll_s rfl (ll_s rfl (ll_s rfl (ll_n ll_0))))))) (hk32 ())
        · skip
          refine vv_iload_n (i := 3) 19 hk dX12_pump_18 rfl rfl rfl ?_
          refine vv_if_lt 32 22 hk dX12_pump_19 rfl rfl ?_ ?_
          · skip
            exact vv_le (ll_s rfl (ll_s rfl (ll_s rfl (ll_s rfl (ll_s rfl (ll_s rfl (ll_n ll_0))))))) (hk32 ())
          · skip
            refine vv_iload 24 hk dX12_pump_22 rfl rfl ?_
            refine vv_if_lt 32 27 hk dX12_pump_24 rfl rfl ?_ ?_
            · skip
              exact vv_le (ll_s rfl (ll_s rfl (ll_s rfl (ll_s rfl (ll_s rfl (ll_s rfl (ll_n ll_0))))))) (hk32 ())
            · skip
              refine vv_iload 29 hk dX12_pump_27 rfl rfl ?_
              refine vv_if_ge 37 32 hk dX12_pump_29 rfl rfl ?_ ?_
              · skip
                refine vv_iload_n (i := 2) 38 hk dX12_pump_37 rfl rfl rfl ?_
                refine vv_bipush 40 hk dX12_pump_38 rfl bp_9 ?_
                refine vv_jn (fun t15 => (σ, 72, [some (rf G 86), some (.int a1), some (.int a2), some (.int a3), some (.int a4), some (.int a5), none], [])) (fun t15 => ?_) (fun k72 hk72 => ?_)
                · skip
                  refine vv_bipush 74 hk dX12_pump_72 rfl bp_m6 ?_
                  refine vv_goto 78 hk dX12_pump_74 rfl ?_
                  exact vv_le (ll_s rfl (ll_s rfl (ll_s rfl (ll_s rfl (ll_s rfl (ll_s rfl (ll_n ll_0))))))) (hk78 (-6 : Int32))
                · skip
                  refine vv_icmp_gt 72 43 hk dX12_pump_40 rfl rfl ?_ ?_
                  · skip
                    exact vv_le (ll_s rfl (ll_s rfl (ll_s rfl (ll_s rfl (ll_s rfl (ll_s rfl (ll_n ll_0))))))) (hk72 ())
                  · skip
                    refine vv_iload_n (i := 3) 44 hk dX12_pump_43 rfl rfl rfl ?_
                    refine vv_bipush 46 hk dX12_pump_44 rfl bp_9 ?_
                    refine vv_icmp_gt 72 49 hk dX12_pump_46 rfl rfl ?_ ?_
                    · skip
                      exact vv_le (ll_s rfl (ll_s rfl (ll_s rfl (ll_s rfl (ll_s rfl (ll_s rfl (ll_n ll_0))))))) (hk72 ())
                    · skip
                      refine vv_iload 51 hk dX12_pump_49 rfl rfl ?_
                      refine vv_bipush 53 hk dX12_pump_51 rfl bp_9 ?_
                      refine vv_icmp_gt 72 56 hk dX12_pump_53 rfl rfl ?_ ?_
                      · skip
                        exact vv_le (ll_s rfl (ll_s rfl (ll_s rfl (ll_s rfl (ll_s rfl (ll_s rfl (ll_n ll_0))))))) (hk72 ())
                      · skip
                        refine vv_iload 58 hk dX12_pump_56 rfl rfl ?_
                        refine vv_ldc 60 hk dX12_pump_58 rfl cw_12_252 ?_
                        refine vv_icmp_gt 72 63 hk dX12_pump_60 rfl rfl ?_ ?_
                        · skip
                          exact vv_le (ll_s rfl (ll_s rfl (ll_s rfl (ll_s rfl (ll_s rfl (ll_s rfl (ll_n ll_0))))))) (hk72 ())
                        · skip
                          refine vv_aload_n (i := 0) 64 hk dX12_pump_63 rfl rfl rfl ?_
                          refine vv_getI 67 hk he dX12_pump_64 rfl la_86 rfl ci_12 rfl fl_12_217 sd_86 ?_
                          refine vv_bipush 69 hk dX12_pump_67 rfl bp_8 ?_
                          refine vv_icmp_ne 77 72 hk dX12_pump_69 rfl rfl ?_ ?_
                          · skip
                            exact vv_le (ll_s rfl (ll_s rfl (ll_s rfl (ll_s rfl (ll_s rfl (ll_s rfl (ll_n ll_0))))))) (hk72 ())
                          · skip
                            refine vv_iconst 78 hk dX12_pump_77 rfl ic_0 ?_
                            exact vv_le (ll_s rfl (ll_s rfl (ll_s rfl (ll_s rfl (ll_s rfl (ll_s rfl (ll_n ll_0))))))) (hk78 (0 : Int32))
              · skip
                exact vv_le (ll_s rfl (ll_s rfl (ll_s rfl (ll_s rfl (ll_s rfl (ll_s rfl (ll_n ll_0))))))) (hk32 ())
theorem c_X12_pumpOf (G : GT) (a1 : Int32) (a2 : Int32) (σ : Hp) : CtI G false yX12_pumpOf cX12_pumpOf 3 (some .int) 1 [(rf G 86), (.int a1), (.int a2)] (f_X12_pumpOf a1 a2 σ) σ := by
  refine ctI (L0 := [some (rf G 86), some (.int a1), some (.int a2)]) (by decide +kernel) rfl rfl rfl (fun κ hk he hret => ?_)
  have hk : KO G κ cX12_pumpOf RX12 1 := hk
  refine vv_aload_n (i := 0) 1 hk dX12_pumpOf_0 rfl rfl rfl ?_
  refine vv_iload_n (i := 1) 2 hk dX12_pumpOf_1 rfl rfl rfl ?_
  refine vv_invIr (st := []) 5 hk he dX12_pumpOf_2 rfl ml_12_295 cf_X12_isPump la_86 ci_12 (c_X12_isPump G a1 σ) rfl rfl rfl rfl (fun v1 => ?_)
  refine vv_if_ne 14 8 hk dX12_pumpOf_5 rfl rfl ?_ ?_
  · skip
    refine vv_aload_n (i := 0) 9 hk dX12_pumpOf_8 rfl rfl rfl ?_
    refine vv_iconst 10 hk dX12_pumpOf_9 rfl ic_m1 ?_
    refine vv_invI (st := []) 13 hk he dX12_pumpOf_10 rfl ml_12_226 cf_X12_no la_86 ci_12 (c_X12_no G (-1 : Int32) σ) rfl rfl rfl rfl (fun v2 σ3 => ?_)
    exact hret _ _ _ _ dX12_pumpOf_13
  · skip
    refine vv_iload_n (i := 2) 15 hk dX12_pumpOf_14 rfl rfl rfl ?_
    refine vv_i2l 16 hk dX12_pumpOf_15 rfl ?_
    refine vv_lconst 17 hk dX12_pumpOf_16 rfl lc_0 ?_
    refine vv_ldc2 20 hk dX12_pumpOf_17 rfl cw_12_298 ?_
    refine vv_staIr (st := []) 23 hk he dX12_pumpOf_20 rfl ml_12_222 sf_X12_isIn (c_X12_isIn G a2.toInt64 (0 : Int64) (5 : Int64) σ) rfl rfl rfl rfl (fun v4 => ?_)
    refine vv_if_ne 33 26 hk dX12_pumpOf_23 rfl rfl ?_ ?_
    · skip
      refine vv_aload_n (i := 0) 27 hk dX12_pumpOf_26 rfl rfl rfl ?_
      refine vv_bipush 29 hk dX12_pumpOf_27 rfl bp_m2 ?_
      refine vv_invI (st := []) 32 hk he dX12_pumpOf_29 rfl ml_12_226 cf_X12_no la_86 ci_12 (c_X12_no G (-2 : Int32) σ) rfl rfl rfl rfl (fun v5 σ6 => ?_)
      exact hret _ _ _ _ dX12_pumpOf_32
    · skip
      refine vv_iload_n (i := 2) 34 hk dX12_pumpOf_33 rfl rfl rfl ?_
      refine vv_jn (fun t7 => (σ, 102, [some (rf G 86), none, none], [(.int t7)])) (fun t7 => ?_) (fun k102 hk102 => ?_)
      · skip
        exact hret _ _ _ _ dX12_pumpOf_102
      · skip
        refine vv_if_ne 54 37 hk dX12_pumpOf_34 rfl rfl ?_ ?_
        · skip
          refine vv_aload_n (i := 0) 38 hk dX12_pumpOf_37 rfl rfl rfl ?_
          refine vv_getR 41 hk dX12_pumpOf_38 rfl la_86 rfl ci_12 rfl fl_12_65 ?_
          refine vv_iload_n (i := 1) 42 hk dX12_pumpOf_41 rfl rfl rfl ?_
          refine vv_zald 43 hk he dX12_pumpOf_42 rfl la_105 sd_105 (fun v8 => ?_)
          refine vv_if_eq 50 46 hk dX12_pumpOf_43 rfl rfl ?_ ?_
          · skip
            refine vv_iconst 51 hk dX12_pumpOf_50 rfl ic_0 ?_
            refine vv_goto 102 hk dX12_pumpOf_51 rfl ?_
            exact vv_le (ll_s rfl (ll_n (ll_n ll_0))) (hk102 (0 : Int32))
          · skip
            refine vv_iconst 47 hk dX12_pumpOf_46 rfl ic_1 ?_
            refine vv_goto 102 hk dX12_pumpOf_47 rfl ?_
            exact vv_le (ll_s rfl (ll_n (ll_n ll_0))) (hk102 (1 : Int32))
        · skip
          refine vv_iload_n (i := 2) 55 hk dX12_pumpOf_54 rfl rfl rfl ?_
          refine vv_iconst 56 hk dX12_pumpOf_55 rfl ic_4 ?_
          refine vv_icmp_ne 76 59 hk dX12_pumpOf_56 rfl rfl ?_ ?_
          · skip
            refine vv_aload_n (i := 0) 60 hk dX12_pumpOf_59 rfl rfl rfl ?_
            refine vv_getR 63 hk dX12_pumpOf_60 rfl la_86 rfl ci_12 rfl fl_12_68 ?_
            refine vv_iload_n (i := 1) 64 hk dX12_pumpOf_63 rfl rfl rfl ?_
            refine vv_zald 65 hk he dX12_pumpOf_64 rfl la_106 sd_106 (fun v9 => ?_)
            refine vv_if_eq 72 68 hk dX12_pumpOf_65 rfl rfl ?_ ?_
            · skip
              refine vv_iconst 73 hk dX12_pumpOf_72 rfl ic_0 ?_
              refine vv_goto 102 hk dX12_pumpOf_73 rfl ?_
              exact vv_le (ll_s rfl (ll_n (ll_n ll_0))) (hk102 (0 : Int32))
            · skip
              refine vv_iconst 69 hk dX12_pumpOf_68 rfl ic_1 ?_
              refine vv_goto 102 hk dX12_pumpOf_69 rfl ?_
              exact vv_le (ll_s rfl (ll_n (ll_n ll_0))) (hk102 (1 : Int32))
          · skip
            refine vv_iload_n (i := 2) 77 hk dX12_pumpOf_76 rfl rfl rfl ?_
            refine vv_iconst 78 hk dX12_pumpOf_77 rfl ic_5 ?_
            refine vv_icmp_ne 90 81 hk dX12_pumpOf_78 rfl rfl ?_ ?_
            · skip
              refine vv_aload_n (i := 0) 82 hk dX12_pumpOf_81 rfl rfl rfl ?_
              refine vv_getR 85 hk dX12_pumpOf_82 rfl la_86 rfl ci_12 rfl fl_12_40 ?_
              refine vv_iload_n (i := 1) 86 hk dX12_pumpOf_85 rfl rfl rfl ?_
              refine vv_iald 87 hk he dX12_pumpOf_86 rfl la_97 sd_97 (fun v10 => ?_)
              refine vv_goto 102 hk dX12_pumpOf_87 rfl ?_
              exact vv_le (ll_s rfl (ll_n (ll_n ll_0))) (hk102 v10)
            · skip
              refine vv_aload_n (i := 0) 91 hk dX12_pumpOf_90 rfl rfl rfl ?_
              refine vv_getR 94 hk dX12_pumpOf_91 rfl la_86 rfl ci_12 rfl fl_12_52 ?_
              refine vv_iconst 95 hk dX12_pumpOf_94 rfl ic_3 ?_
              refine vv_iload_n (i := 1) 96 hk dX12_pumpOf_95 rfl rfl rfl ?_
              refine vv_imul 97 hk dX12_pumpOf_96 rfl ?_
              refine vv_iload_n (i := 2) 98 hk dX12_pumpOf_97 rfl rfl rfl ?_
              refine vv_iadd 99 hk dX12_pumpOf_98 rfl ?_
              refine vv_iconst 100 hk dX12_pumpOf_99 rfl ic_1 ?_
              refine vv_isub 101 hk dX12_pumpOf_100 rfl ?_
              refine vv_iald 102 hk he dX12_pumpOf_101 rfl la_101 sd_101 (fun v11 => ?_)
              exact vv_le (ll_s rfl (ll_n (ll_n ll_0))) (hk102 v11)
theorem c_X12_reading (G : GT) (a1 : Int32) (a2 : Int32) (σ : Hp) : CtI G false yX12_reading cX12_reading 4 (some .int) 1 [(rf G 86), (.int a1), (.int a2)] (f_X12_reading a1 a2 σ) σ := by
  refine ctI (L0 := [some (rf G 86), some (.int a1), some (.int a2), none]) (by decide +kernel) rfl rfl rfl (fun κ hk he hret => ?_)
  have hk : KO G κ cX12_reading RX12 1 := hk
  refine vv_iload_n (i := 1) 1 hk dX12_reading_0 rfl rfl rfl ?_
  refine vv_i2l 2 hk dX12_reading_1 rfl ?_
  refine vv_lconst 3 hk dX12_reading_2 rfl lc_0 ?_
  refine vv_ldc2 6 hk dX12_reading_3 rfl cw_12_290 ?_
  refine vv_staIr (st := []) 9 hk he dX12_reading_6 rfl ml_12_222 sf_X12_isIn (c_X12_isIn G a1.toInt64 (0 : Int64) (2 : Int64) σ) rfl rfl rfl rfl (fun v1 => ?_)
  refine vv_if_ne 18 12 hk dX12_reading_9 rfl rfl ?_ ?_
  · skip
    refine vv_aload_n (i := 0) 13 hk dX12_reading_12 rfl rfl rfl ?_
    refine vv_iconst 14 hk dX12_reading_13 rfl ic_m1 ?_
    refine vv_invI (st := []) 17 hk he dX12_reading_14 rfl ml_12_226 cf_X12_no la_86 ci_12 (c_X12_no G (-1 : Int32) σ) rfl rfl rfl rfl (fun v2 σ3 => ?_)
    exact hret _ _ _ _ dX12_reading_17
  · skip
    refine vv_iload_n (i := 2) 19 hk dX12_reading_18 rfl rfl rfl ?_
    refine vv_i2l 20 hk dX12_reading_19 rfl ?_
    refine vv_ldc2 23 hk dX12_reading_20 rfl cw_12_426 ?_
    refine vv_ldc2 26 hk dX12_reading_23 rfl cw_12_428 ?_
    refine vv_staIr (st := []) 29 hk he dX12_reading_26 rfl ml_12_232 sf_X12_out (c_X12_out G a2.toInt64 (-1 : Int64) (9999 : Int64) σ) rfl rfl rfl rfl (fun v4 => ?_)
    refine vv_istore_n (i := 3) 30 [some (rf G 86), some (.int a1), some (.int a2), some (.int v4)] hk dX12_reading_29 rfl rfl rfl rfl ?_
    refine vv_iload_n (i := 3) 31 hk dX12_reading_30 rfl rfl rfl ?_
    refine vv_if_eq 40 34 hk dX12_reading_31 rfl rfl ?_ ?_
    · skip
      refine vv_aload_n (i := 0) 41 hk dX12_reading_40 rfl rfl rfl ?_
      refine vv_getR 44 hk dX12_reading_41 rfl la_86 rfl ci_12 rfl fl_12_165 ?_
      refine vv_iload_n (i := 1) 45 hk dX12_reading_44 rfl rfl rfl ?_
      refine vv_iload_n (i := 2) 46 hk dX12_reading_45 rfl rfl rfl ?_
      refine vv_iast 47 hk he dX12_reading_46 rfl la_138 sd_138 (fun σ5 => ?_)
      refine vv_iconst 48 hk dX12_reading_47 rfl ic_1 ?_
      exact hret _ _ _ _ dX12_reading_48
    · skip
      refine vv_aload_n (i := 0) 35 hk dX12_reading_34 rfl rfl rfl ?_
      refine vv_iload_n (i := 3) 36 hk dX12_reading_35 rfl rfl rfl ?_
      refine vv_invI (st := []) 39 hk he dX12_reading_36 rfl ml_12_226 cf_X12_no la_86 ci_12 (c_X12_no G v4 σ) rfl rfl rfl rfl (fun v6 σ7 => ?_)
      exact hret _ _ _ _ dX12_reading_39
theorem c_X12_readsBy (G : GT) (a1 : Int32) (a2 : Int64) (a3 : Int64) (a4 : Int64) (σ : Hp) : CtI G false yX12_readsBy cX12_readsBy 8 (some .int) 1 [(rf G 86), (.int a1), (.long a2), (.long a3), (.long a4)] (rdI (f_X12_readsBy a1 a2 a3 a4 σ) σ) σ := by
  refine ctIr (L0 := [some (rf G 86), some (.int a1), some (.long a2), none, some (.long a3), none, some (.long a4), none]) (by decide +kernel) rfl rfl rfl (fun κ hk he hret => ?_)
  have hk : KO G κ cX12_readsBy RX12 1 := hk
  refine vv_aload_n (i := 0) 1 hk dX12_readsBy_0 rfl rfl rfl ?_
  refine vv_getR 4 hk dX12_readsBy_1 rfl la_86 rfl ci_12 rfl fl_12_162 ?_
  refine vv_iconst 5 hk dX12_readsBy_4 rfl ic_3 ?_
  refine vv_iload_n (i := 1) 6 hk dX12_readsBy_5 rfl rfl rfl ?_
  refine vv_imul 7 hk dX12_readsBy_6 rfl ?_
  refine vv_iald 8 hk he dX12_readsBy_7 rfl la_137 sd_137 (fun v1 => ?_)
  refine vv_i2l 9 hk dX12_readsBy_8 rfl ?_
  refine vv_lload_n (i := 2) 10 hk dX12_readsBy_9 rfl rfl rfl ?_
  refine vv_lmul 11 hk dX12_readsBy_10 rfl ?_
  refine vv_aload_n (i := 0) 12 hk dX12_readsBy_11 rfl rfl rfl ?_
  refine vv_getR 15 hk dX12_readsBy_12 rfl la_86 rfl ci_12 rfl fl_12_162 ?_
  refine vv_iconst 16 hk dX12_readsBy_15 rfl ic_3 ?_
  refine vv_iload_n (i := 1) 17 hk dX12_readsBy_16 rfl rfl rfl ?_
  refine vv_imul 18 hk dX12_readsBy_17 rfl ?_
  refine vv_iconst 19 hk dX12_readsBy_18 rfl ic_1 ?_
  refine vv_iadd 20 hk dX12_readsBy_19 rfl ?_
  refine vv_iald 21 hk he dX12_readsBy_20 rfl la_137 sd_137 (fun v2 => ?_)
  refine vv_i2l 22 hk dX12_readsBy_21 rfl ?_
  refine vv_lload 24 hk dX12_readsBy_22 rfl rfl ?_
  refine vv_lmul 25 hk dX12_readsBy_24 rfl ?_
  refine vv_ladd 26 hk dX12_readsBy_25 rfl ?_
  refine vv_aload_n (i := 0) 27 hk dX12_readsBy_26 rfl rfl rfl ?_
  refine vv_getR 30 hk dX12_readsBy_27 rfl la_86 rfl ci_12 rfl fl_12_162 ?_
  refine vv_iconst 31 hk dX12_readsBy_30 rfl ic_3 ?_
  refine vv_iload_n (i := 1) 32 hk dX12_readsBy_31 rfl rfl rfl ?_
  refine vv_imul 33 hk dX12_readsBy_32 rfl ?_
  refine vv_iconst 34 hk dX12_readsBy_33 rfl ic_2 ?_
  refine vv_iadd 35 hk dX12_readsBy_34 rfl ?_
  refine vv_iald 36 hk he dX12_readsBy_35 rfl la_137 sd_137 (fun v3 => ?_)
  refine vv_i2l 37 hk dX12_readsBy_36 rfl ?_
  refine vv_lload 39 hk dX12_readsBy_37 rfl rfl ?_
  refine vv_lmul 40 hk dX12_readsBy_39 rfl ?_
  refine vv_ladd 41 hk dX12_readsBy_40 rfl ?_
  refine vv_ldc2 44 hk dX12_readsBy_41 rfl cw_12_420 ?_
  refine vv_ldiv 45 hk dX12_readsBy_44 rfl ?_
  refine vv_staIr (st := []) 48 hk he dX12_readsBy_45 rfl ml_12_286 sf_X12_least (c_X12_least G ((((v1.toInt64 * a2) + (v2.toInt64 * a3)) + (v3.toInt64 * a4)) / (10 : Int64)) σ) rfl rfl rfl rfl (fun v4 => ?_)
  exact hret _ _ _ dX12_readsBy_48
theorem c_X12_reads (G : GT) (a1 : Int32) (a2 : Int32) (σ : Hp) : CtI G false yX12_reads cX12_reads 3 (some .int) 2 [(rf G 86), (.int a1), (.int a2)] (f_X12_reads a1 a2 σ) σ := by
  refine ctI (L0 := [some (rf G 86), some (.int a1), some (.int a2)]) (by decide +kernel) rfl rfl rfl (fun κ hk he hret => ?_)
  have hk : KO G κ cX12_reads RX12 2 := hk
  refine vv_iload_n (i := 1) 1 hk dX12_reads_0 rfl rfl rfl ?_
  refine vv_i2l 2 hk dX12_reads_1 rfl ?_
  refine vv_lconst 3 hk dX12_reads_2 rfl lc_0 ?_
  refine vv_ldc2 6 hk dX12_reads_3 rfl cw_12_290 ?_
  refine vv_staIr (st := []) 9 hk he dX12_reads_6 rfl ml_12_222 sf_X12_isIn (c_X12_isIn G a1.toInt64 (0 : Int64) (2 : Int64) σ) rfl rfl rfl rfl (fun v1 => ?_)
  refine vv_jn (fun t2 => (σ, 20, [some (rf G 86), none, none], [])) (fun t2 => ?_) (fun k20 hk20 => ?_)
  · skip
    refine vv_aload_n (i := 0) 21 hk dX12_reads_20 rfl rfl rfl ?_
    refine vv_iconst 22 hk dX12_reads_21 rfl ic_m1 ?_
    refine vv_invI (st := []) 25 hk he dX12_reads_22 rfl ml_12_226 cf_X12_no la_86 ci_12 (c_X12_no G (-1 : Int32) σ) rfl rfl rfl rfl (fun v3 σ4 => ?_)
    exact hret _ _ _ _ dX12_reads_25
  · skip
    refine vv_if_eq 20 12 hk dX12_reads_9 rfl rfl ?_ ?_
    · skip
      exact vv_le (ll_s rfl (ll_n (ll_n ll_0))) (hk20 ())
    · skip
      refine vv_aload_n (i := 0) 13 hk dX12_reads_12 rfl rfl rfl ?_
      refine vv_iload_n (i := 2) 14 hk dX12_reads_13 rfl rfl rfl ?_
      refine vv_invIr (st := []) 17 hk he dX12_reads_14 rfl ml_12_238 cf_X12_isRoom la_86 ci_12 (c_X12_isRoom G a2 σ) rfl rfl rfl rfl (fun v5 => ?_)
      refine vv_if_ne 26 20 hk dX12_reads_17 rfl rfl ?_ ?_
      · skip
        exact vv_le (ll_s rfl (ll_n (ll_n ll_0))) (hk20 ())
      · skip
        refine vv_aload_n (i := 0) 27 hk dX12_reads_26 rfl rfl rfl ?_
        refine vv_iload_n (i := 1) 28 hk dX12_reads_27 rfl rfl rfl ?_
        refine vv_aload_n (i := 0) 29 hk dX12_reads_28 rfl rfl rfl ?_
        refine vv_getR 32 hk dX12_reads_29 rfl la_86 rfl ci_12 rfl fl_12_46 ?_
        refine vv_iconst 33 hk dX12_reads_32 rfl ic_3 ?_
        refine vv_iload_n (i := 2) 34 hk dX12_reads_33 rfl rfl rfl ?_
        refine vv_imul 35 hk dX12_reads_34 rfl ?_
        refine vv_iald 36 hk he dX12_reads_35 rfl la_99 sd_99 (fun v6 => ?_)
        refine vv_i2l 37 hk dX12_reads_36 rfl ?_
        refine vv_aload_n (i := 0) 38 hk dX12_reads_37 rfl rfl rfl ?_
        refine vv_getR 41 hk dX12_reads_38 rfl la_86 rfl ci_12 rfl fl_12_46 ?_
        refine vv_iconst 42 hk dX12_reads_41 rfl ic_3 ?_
        refine vv_iload_n (i := 2) 43 hk dX12_reads_42 rfl rfl rfl ?_
        refine vv_imul 44 hk dX12_reads_43 rfl ?_
        refine vv_iconst 45 hk dX12_reads_44 rfl ic_1 ?_
        refine vv_iadd 46 hk dX12_reads_45 rfl ?_
        refine vv_iald 47 hk he dX12_reads_46 rfl la_99 sd_99 (fun v7 => ?_)
        refine vv_i2l 48 hk dX12_reads_47 rfl ?_
        refine vv_aload_n (i := 0) 49 hk dX12_reads_48 rfl rfl rfl ?_
        refine vv_getR 52 hk dX12_reads_49 rfl la_86 rfl ci_12 rfl fl_12_46 ?_
        refine vv_iconst 53 hk dX12_reads_52 rfl ic_3 ?_
        refine vv_iload_n (i := 2) 54 hk dX12_reads_53 rfl rfl rfl ?_
        refine vv_imul 55 hk dX12_reads_54 rfl ?_
        refine vv_iconst 56 hk dX12_reads_55 rfl ic_2 ?_
        refine vv_iadd 57 hk dX12_reads_56 rfl ?_
        refine vv_iald 58 hk he dX12_reads_57 rfl la_99 sd_99 (fun v8 => ?_)
        refine vv_i2l 59 hk dX12_reads_58 rfl ?_
        refine vv_invIr (st := []) 62 hk he dX12_reads_59 rfl ml_12_422 cf_X12_readsBy la_86 ci_12 (c_X12_readsBy G a1 v6.toInt64 v7.toInt64 v8.toInt64 σ) rfl rfl rfl rfl (fun v9 => ?_)
        exact hret _ _ _ _ dX12_reads_62
theorem c_X12_redo (G : GT) (σ : Hp) : CtI G false yX12_redo cX12_redo 1 (some .int) 1 [(rf G 86)] (f_X12_redo σ) σ := by
  refine ctI (L0 := [some (rf G 86)]) (by decide +kernel) rfl rfl rfl (fun κ hk he hret => ?_)
  have hk : KO G κ cX12_redo RX12 1 := hk
  refine vv_aload_n (i := 0) 1 hk dX12_redo_0 rfl rfl rfl ?_
  refine vv_getI 4 hk he dX12_redo_1 rfl la_86 rfl ci_12 rfl fl_12_379 sd_86 ?_
  refine vv_if_ne 14 7 hk dX12_redo_4 rfl rfl ?_ ?_
  · skip
    refine vv_aload_n (i := 0) 8 hk dX12_redo_7 rfl rfl rfl ?_
    refine vv_bipush 10 hk dX12_redo_8 rfl bp_m3 ?_
    refine vv_invI (st := []) 13 hk he dX12_redo_10 rfl ml_12_226 cf_X12_no la_86 ci_12 (c_X12_no G (-3 : Int32) σ) rfl rfl rfl rfl (fun v1 σ2 => ?_)
    exact hret _ _ _ _ dX12_redo_13
  · skip
    refine vv_aload_n (i := 0) 15 hk dX12_redo_14 rfl rfl rfl ?_
    refine vv_aload_n (i := 0) 16 hk dX12_redo_15 rfl rfl rfl ?_
    refine vv_getR 19 hk dX12_redo_16 rfl la_86 rfl ci_12 rfl fl_12_116 ?_
    refine vv_aload_n (i := 0) 20 hk dX12_redo_19 rfl rfl rfl ?_
    refine vv_getI 23 hk he dX12_redo_20 rfl la_86 rfl ci_12 rfl fl_12_376 sd_86 ?_
    refine vv_iald 24 hk he dX12_redo_23 rfl la_122 sd_122 (fun v3 => ?_)
    refine vv_aload_n (i := 0) 25 hk dX12_redo_24 rfl rfl rfl ?_
    refine vv_getR 28 hk dX12_redo_25 rfl la_86 rfl ci_12 rfl fl_12_119 ?_
    refine vv_aload_n (i := 0) 29 hk dX12_redo_28 rfl rfl rfl ?_
    refine vv_getI 32 hk he dX12_redo_29 rfl la_86 rfl ci_12 rfl fl_12_376 sd_86 ?_
    refine vv_iald 33 hk he dX12_redo_32 rfl la_123 sd_123 (fun v4 => ?_)
    refine vv_aload_n (i := 0) 34 hk dX12_redo_33 rfl rfl rfl ?_
    refine vv_getR 37 hk dX12_redo_34 rfl la_86 rfl ci_12 rfl fl_12_125 ?_
    refine vv_aload_n (i := 0) 38 hk dX12_redo_37 rfl rfl rfl ?_
    refine vv_getI 41 hk he dX12_redo_38 rfl la_86 rfl ci_12 rfl fl_12_376 sd_86 ?_
    refine vv_iald 42 hk he dX12_redo_41 rfl la_125 sd_125 (fun v5 => ?_)
    refine vv_invV (st := []) 45 hk he dX12_redo_42 rfl ml_12_385 cf_X12_becomes la_86 ci_12 (c_X12_becomes G v3 v4 v5 σ) rfl rfl rfl rfl (fun σ6 => ?_)
    refine vv_aload_n (i := 0) 46 hk dX12_redo_45 rfl rfl rfl ?_
    refine vv_dup 47 hk dX12_redo_46 rfl rfl ?_
    refine vv_getI 50 hk he dX12_redo_47 rfl la_86 rfl ci_12 rfl fl_12_376 sd_86 ?_
    refine vv_iconst 51 hk dX12_redo_50 rfl ic_1 ?_
    refine vv_iadd 52 hk dX12_redo_51 rfl ?_
    refine vv_putI 55 hk he dX12_redo_52 rfl la_86 rfl ci_12 rfl fl_12_376 sd_86 rfl rfl (fun σ7 => ?_)
    refine vv_aload_n (i := 0) 56 hk dX12_redo_55 rfl rfl rfl ?_
    refine vv_dup 57 hk dX12_redo_56 rfl rfl ?_
    refine vv_getI 60 hk he dX12_redo_57 rfl la_86 rfl ci_12 rfl fl_12_379 sd_86 ?_
    refine vv_iconst 61 hk dX12_redo_60 rfl ic_1 ?_
    refine vv_isub 62 hk dX12_redo_61 rfl ?_
    refine vv_putI 65 hk he dX12_redo_62 rfl la_86 rfl ci_12 rfl fl_12_379 sd_86 rfl rfl (fun σ8 => ?_)
    refine vv_iconst 66 hk dX12_redo_65 rfl ic_1 ?_
    exact hret _ _ _ _ dX12_redo_66
theorem c_X12_rest (G : GT) (a1 : Int32) (a2 : Int32) (a3 : Int32) (σ : Hp) : CtJ G false yX12_rest cX12_rest 10 (some .long) 3 [(rf G 86), (.int a1), (.int a2), (.int a3)] (f_X12_rest a1 a2 a3 σ) σ := by
  refine ctJ (L0 := [some (rf G 86), some (.int a1), some (.int a2), some (.int a3), none, none, none, none, none, none]) (by decide +kernel) rfl rfl rfl (fun κ hk he hret => ?_)
  have hk : KO G κ cX12_rest RX12 3 := hk
  refine vv_aload_n (i := 0) 1 hk dX12_rest_0 rfl rfl rfl ?_
  refine vv_iload_n (i := 1) 2 hk dX12_rest_1 rfl rfl rfl ?_
  refine vv_invIr (st := []) 5 hk he dX12_rest_2 rfl ml_12_238 cf_X12_isRoom la_86 ci_12 (c_X12_isRoom G a1 σ) rfl rfl rfl rfl (fun v1 => ?_)
  refine vv_jn (fun t2 => (σ, 15, [some (rf G 86), none, none, none, none, none, none, none, none, none], [])) (fun t2 => ?_) (fun k15 hk15 => ?_)
  · skip
    refine vv_aload_n (i := 0) 16 hk dX12_rest_15 rfl rfl rfl ?_
    refine vv_iconst 17 hk dX12_rest_16 rfl ic_m1 ?_
    refine vv_invI (st := []) 20 hk he dX12_rest_17 rfl ml_12_226 cf_X12_no la_86 ci_12 (c_X12_no G (-1 : Int32) σ) rfl rfl rfl rfl (fun v3 σ4 => ?_)
    refine vv_i2l 21 hk dX12_rest_20 rfl ?_
    exact hret _ _ _ _ dX12_rest_21
  · skip
    refine vv_if_eq 15 8 hk dX12_rest_5 rfl rfl ?_ ?_
    · skip
      exact vv_le (ll_s rfl (ll_n (ll_n (ll_n (ll_n (ll_n (ll_n (ll_n (ll_n (ll_n ll_0)))))))))) (hk15 ())
    · skip
      refine vv_iload_n (i := 2) 9 hk dX12_rest_8 rfl rfl rfl ?_
      refine vv_staIr (st := []) 12 hk he dX12_rest_9 rfl ml_12_244 sf_X12_isGas (c_X12_isGas G a2 σ) rfl rfl rfl rfl (fun v5 => ?_)
      refine vv_if_ne 22 15 hk dX12_rest_12 rfl rfl ?_ ?_
      · skip
        exact vv_le (ll_s rfl (ll_n (ll_n (ll_n (ll_n (ll_n (ll_n (ll_n (ll_n (ll_n ll_0)))))))))) (hk15 ())
      · skip
        refine vv_iload_n (i := 3) 23 hk dX12_rest_22 rfl rfl rfl ?_
        refine vv_i2l 24 hk dX12_rest_23 rfl ?_
        refine vv_lconst 25 hk dX12_rest_24 rfl lc_0 ?_
        refine vv_lconst 26 hk dX12_rest_25 rfl lc_1 ?_
        refine vv_staIr (st := []) 29 hk he dX12_rest_26 rfl ml_12_222 sf_X12_isIn (c_X12_isIn G a3.toInt64 (0 : Int64) (1 : Int64) σ) rfl rfl rfl rfl (fun v6 => ?_)
        refine vv_if_ne 40 32 hk dX12_rest_29 rfl rfl ?_ ?_
        · skip
          refine vv_aload_n (i := 0) 33 hk dX12_rest_32 rfl rfl rfl ?_
          refine vv_bipush 35 hk dX12_rest_33 rfl bp_m2 ?_
          refine vv_invI (st := []) 38 hk he dX12_rest_35 rfl ml_12_226 cf_X12_no la_86 ci_12 (c_X12_no G (-2 : Int32) σ) rfl rfl rfl rfl (fun v7 σ8 => ?_)
          refine vv_i2l 39 hk dX12_rest_38 rfl ?_
          exact hret _ _ _ _ dX12_rest_39
        · skip
          refine vv_iconst 41 hk dX12_rest_40 rfl ic_0 ?_
          refine vv_istore 43 [some (rf G 86), some (.int a1), some (.int a2), some (.int a3), some (.int (0 : Int32)), none, none, none, none, none] hk dX12_rest_41 rfl rfl rfl ?_
          refine vv_jn (fun t9 => (t9, 63, [some (rf G 86), some (.int a1), some (.int a2), some (.int a3), none, none, none, none, none, none], [])) (fun t9 => ?_) (fun k63 hk63 => ?_)
          · skip
            refine vv_aload_n (i := 0) 64 hk dX12_rest_63 rfl rfl rfl ?_
            refine vv_iload_n (i := 2) 65 hk dX12_rest_64 rfl rfl rfl ?_
            refine vv_invV (st := []) 68 hk he dX12_rest_65 rfl ml_12_413 cf_X12_solves la_86 ci_12 (c_X12_solves G a2 t9) rfl rfl rfl rfl (fun σ10 => ?_)
            refine vv_aload_n (i := 0) 69 hk dX12_rest_68 rfl rfl rfl ?_
            refine vv_getR 72 hk dX12_rest_69 rfl la_86 rfl ci_12 rfl fl_12_144 ?_
            refine vv_iload_n (i := 1) 73 hk dX12_rest_72 rfl rfl rfl ?_
            refine vv_zald 74 hk he dX12_rest_73 rfl la_131 sd_131 (fun v11 => ?_)
            refine vv_if_eq 81 77 hk dX12_rest_74 rfl rfl ?_ ?_
            · skip
              refine vv_aload_n (i := 0) 82 hk dX12_rest_81 rfl rfl rfl ?_
              refine vv_getR 85 hk dX12_rest_82 rfl la_86 rfl ci_12 rfl fl_12_134 ?_
              refine vv_bipush 87 hk dX12_rest_85 rfl bp_6 ?_
              refine vv_iload_n (i := 1) 88 hk dX12_rest_87 rfl rfl rfl ?_
              refine vv_imul 89 hk dX12_rest_88 rfl ?_
              refine vv_iconst 90 hk dX12_rest_89 rfl ic_5 ?_
              refine vv_iadd 91 hk dX12_rest_90 rfl ?_
              refine vv_lald 92 hk he dX12_rest_91 rfl la_128 sd_128 (fun v12 => ?_)
              refine vv_lstore 94 [some (rf G 86), some (.int a1), some (.int a2), some (.int a3), some (.long v12), none, none, none, none, none] hk dX12_rest_92 rfl rfl rfl ?_
              refine vv_aload_n (i := 0) 95 hk dX12_rest_94 rfl rfl rfl ?_
              refine vv_getR 98 hk dX12_rest_95 rfl la_86 rfl ci_12 rfl fl_12_134 ?_
              refine vv_bipush 100 hk dX12_rest_98 rfl bp_6 ?_
              refine vv_iload_n (i := 1) 101 hk dX12_rest_100 rfl rfl rfl ?_
              refine vv_imul 102 hk dX12_rest_101 rfl ?_
              refine vv_iload_n (i := 1) 103 hk dX12_rest_102 rfl rfl rfl ?_
              refine vv_iadd 104 hk dX12_rest_103 rfl ?_
              refine vv_lald 105 hk he dX12_rest_104 rfl la_128 sd_128 (fun v13 => ?_)
              refine vv_lstore 107 [some (rf G 86), some (.int a1), some (.int a2), some (.int a3), some (.long v12), none, some (.long v13), none, none, none] hk dX12_rest_105 rfl rfl rfl ?_
              refine vv_lload 109 hk dX12_rest_107 rfl rfl ?_
              refine vv_lload 111 hk dX12_rest_109 rfl rfl ?_
              refine vv_staJr (st := []) 114 hk he dX12_rest_111 rfl ml_12_400 sf_X12_divisor (c_X12_divisor G v12 v13 σ10) rfl rfl rfl rfl (fun v14 => ?_)
              refine vv_lstore 116 [some (rf G 86), some (.int a1), some (.int a2), some (.int a3), some (.long v12), none, some (.long v13), none, some (.long v14), none] hk dX12_rest_114 rfl rfl rfl ?_
              refine vv_lload 118 hk dX12_rest_116 rfl rfl ?_
              refine vv_lconst 119 hk dX12_rest_118 rfl lc_0 ?_
              refine vv_lcmp 120 hk dX12_rest_119 rfl ?_
              refine vv_jn (fun t15 => (σ10, 128, [some (rf G 86), none, none, some (.int a3), some (.long v12), none, some (.long v13), none, some (.long t15), none], [])) (fun t15 => ?_) (fun k128 hk128 => ?_)
              · skip
                refine vv_iload_n (i := 3) 129 hk dX12_rest_128 rfl rfl rfl ?_
                refine vv_jn (fun t16 => (σ10, 145, [some (rf G 86), none, none, none, none, none, none, none, none, none], [(.long t16)])) (fun t16 => ?_) (fun k145 hk145 => ?_)
                · skip
                  exact hret _ _ _ _ dX12_rest_145
                · skip
                  refine vv_if_ne 140 132 hk dX12_rest_129 rfl rfl ?_ ?_
                  · skip
                    refine vv_lload 134 hk dX12_rest_132 rfl rfl ?_
                    refine vv_lload 136 hk dX12_rest_134 rfl rfl ?_
                    refine vv_ldiv 137 hk dX12_rest_136 rfl ?_
                    refine vv_goto 145 hk dX12_rest_137 rfl ?_
                    exact vv_le (ll_s rfl (ll_n (ll_n (ll_n (ll_n (ll_n (ll_n (ll_n (ll_n (ll_n ll_0)))))))))) (hk145 (v12 / t15))
                  · skip
                    refine vv_lload 142 hk dX12_rest_140 rfl rfl ?_
                    refine vv_lload 144 hk dX12_rest_142 rfl rfl ?_
                    refine vv_ldiv 145 hk dX12_rest_144 rfl ?_
                    exact vv_le (ll_s rfl (ll_n (ll_n (ll_n (ll_n (ll_n (ll_n (ll_n (ll_n (ll_n ll_0)))))))))) (hk145 (v13 / t15))
              · skip
                refine vv_if_ge 128 123 hk dX12_rest_120 rfl rfl ?_ ?_
                · skip
                  exact vv_le (ll_s rfl (ll_n (ll_n (ll_s rfl (ll_s rfl (ll_n (ll_s rfl (ll_n (ll_s rfl (ll_n ll_0)))))))))) (hk128 v14)
                · skip
                  refine vv_lload 125 hk dX12_rest_123 rfl rfl ?_
                  refine vv_lneg 126 hk dX12_rest_125 rfl ?_
                  refine vv_lstoreL 128 (fun x17 => [some (rf G 86), some (.int a1), some (.int a2), some (.int a3), some (.long v12), none, some (.long v13), none, some (.long x17), none]) hk dX12_rest_126 rfl rfl (fun _ => rfl) (fun x17 => ?_)
                  exact vv_le (ll_s rfl (ll_n (ll_n (ll_s rfl (ll_s rfl (ll_n (ll_s rfl (ll_n (ll_s rfl (ll_n ll_0)))))))))) (hk128 x17)
            · skip
              refine vv_ldc2 80 hk dX12_rest_77 rfl cw_12_416 ?_
              exact hret _ _ _ _ dX12_rest_80
          · skip
            refine vv_lp (fun t18 => (t18.2, 43, [some (rf G 86), some (.int a1), some (.int a2), some (.int a3), some (.int t18.1), none, none, none, none, none], [])) (fun kl43 hkl43 t18 => ?_) FU ((0 : Int32), σ)
            refine vv_iload 45 hk dX12_rest_43 rfl rfl ?_
            refine vv_iconst 46 hk dX12_rest_45 rfl ic_5 ?_
            refine vv_icmp_ge 63 49 hk dX12_rest_46 rfl rfl ?_ ?_
            · skip
              exact vv_le (ll_s rfl (ll_s rfl (ll_s rfl (ll_s rfl (ll_n (ll_n (ll_n (ll_n (ll_n (ll_n ll_0)))))))))) (hk63 t18.2)
            · skip
              refine vv_aload_n (i := 0) 50 hk dX12_rest_49 rfl rfl rfl ?_
              refine vv_getR 53 hk dX12_rest_50 rfl la_86 rfl ci_12 rfl fl_12_141 ?_
              refine vv_iload 55 hk dX12_rest_53 rfl rfl ?_
              refine vv_iconst 56 hk dX12_rest_55 rfl ic_0 ?_
              refine vv_iast 57 hk he dX12_rest_56 rfl la_130 sd_130 (fun σ19 => ?_)
              refine vv_iinc 60 (fun x20 => [some (rf G 86), some (.int a1), some (.int a2), some (.int a3), some (.int x20), none, none, none, none, none]) hk dX12_rest_57 rfl rfl ic_1 (fun _ => rfl) (fun x20 => ?_)
              refine vv_goto 43 hk dX12_rest_60 rfl ?_
              exact vv_le (ll_s rfl (ll_s rfl (ll_s rfl (ll_s rfl (ll_s rfl (ll_n (ll_n (ll_n (ll_n (ll_n ll_0)))))))))) (hkl43 (x20, σ19))
theorem c_X12_restCold (G : GT) (a1 : Int32) (σ : Hp) : CtI G false yX12_restCold cX12_restCold 2 (some .int) 2 [(rf G 86), (.int a1)] (f_X12_restCold a1 σ) σ := by
  refine ctI (L0 := [some (rf G 86), some (.int a1)]) (by decide +kernel) rfl rfl rfl (fun κ hk he hret => ?_)
  have hk : KO G κ cX12_restCold RX12 2 := hk
  refine vv_iload_n (i := 1) 1 hk dX12_restCold_0 rfl rfl rfl ?_
  refine vv_i2l 2 hk dX12_restCold_1 rfl ?_
  refine vv_lconst 3 hk dX12_restCold_2 rfl lc_0 ?_
  refine vv_ldc2 6 hk dX12_restCold_3 rfl cw_12_220 ?_
  refine vv_staIr (st := []) 9 hk he dX12_restCold_6 rfl ml_12_222 sf_X12_isIn (c_X12_isIn G a1.toInt64 (0 : Int64) (3 : Int64) σ) rfl rfl rfl rfl (fun v1 => ?_)
  refine vv_jn (fun t2 => (t2.2, 25, [some (rf G 86), none], [(.int t2.1)])) (fun t2 => ?_) (fun k25 hk25 => ?_)
  · skip
    exact hret _ _ _ _ dX12_restCold_25
  · skip
    refine vv_if_eq 20 12 hk dX12_restCold_9 rfl rfl ?_ ?_
    · skip
      refine vv_aload_n (i := 0) 21 hk dX12_restCold_20 rfl rfl rfl ?_
      refine vv_iconst 22 hk dX12_restCold_21 rfl ic_m1 ?_
      refine vv_invI (st := []) 25 hk he dX12_restCold_22 rfl ml_12_226 cf_X12_no la_86 ci_12 (c_X12_no G (-1 : Int32) σ) rfl rfl rfl rfl (fun v3 σ4 => ?_)
      exact vv_le (ll_s rfl (ll_n ll_0)) (hk25 (v3, σ4))
    · skip
      refine vv_aload_n (i := 0) 13 hk dX12_restCold_12 rfl rfl rfl ?_
      refine vv_iload_n (i := 1) 14 hk dX12_restCold_13 rfl rfl rfl ?_
      refine vv_invIr (st := []) 17 hk he dX12_restCold_14 rfl ml_12_439 cf_X12_rests la_86 ci_12 (c_X12_rests G a1 σ) rfl rfl rfl rfl (fun v5 => ?_)
      refine vv_goto 25 hk dX12_restCold_17 rfl ?_
      exact vv_le (ll_s rfl (ll_n ll_0)) (hk25 (v5, σ))
theorem c_X12_room (G : GT) (a1 : Int32) (a2 : Int32) (σ : Hp) : CtI G false yX12_room cX12_room 4 (some .int) 1 [(rf G 86), (.int a1), (.int a2)] (f_X12_room a1 a2 σ) σ := by
  refine ctI (L0 := [some (rf G 86), some (.int a1), some (.int a2), none]) (by decide +kernel) rfl rfl rfl (fun κ hk he hret => ?_)
  have hk : KO G κ cX12_room RX12 1 := hk
  refine vv_iload_n (i := 2) 1 hk dX12_room_0 rfl rfl rfl ?_
  refine vv_i2l 2 hk dX12_room_1 rfl ?_
  refine vv_lconst 3 hk dX12_room_2 rfl lc_0 ?_
  refine vv_ldc2 6 hk dX12_room_3 rfl cw_12_220 ?_
  refine vv_staIr (st := []) 9 hk he dX12_room_6 rfl ml_12_222 sf_X12_isIn (c_X12_isIn G a2.toInt64 (0 : Int64) (3 : Int64) σ) rfl rfl rfl rfl (fun v1 => ?_)
  refine vv_if_ne 18 12 hk dX12_room_9 rfl rfl ?_ ?_
  · skip
    refine vv_aload_n (i := 0) 13 hk dX12_room_12 rfl rfl rfl ?_
    refine vv_iconst 14 hk dX12_room_13 rfl ic_m1 ?_
    refine vv_invI (st := []) 17 hk he dX12_room_14 rfl ml_12_226 cf_X12_no la_86 ci_12 (c_X12_no G (-1 : Int32) σ) rfl rfl rfl rfl (fun v2 σ3 => ?_)
    exact hret _ _ _ _ dX12_room_17
  · skip
    refine vv_iload_n (i := 1) 19 hk dX12_room_18 rfl rfl rfl ?_
    refine vv_i2l 20 hk dX12_room_19 rfl ?_
    refine vv_lconst 21 hk dX12_room_20 rfl lc_1 ?_
    refine vv_ldc2 24 hk dX12_room_21 rfl cw_12_230 ?_
    refine vv_staIr (st := []) 27 hk he dX12_room_24 rfl ml_12_232 sf_X12_out (c_X12_out G a1.toInt64 (1 : Int64) (99 : Int64) σ) rfl rfl rfl rfl (fun v4 => ?_)
    refine vv_istore_n (i := 3) 28 [some (rf G 86), some (.int a1), some (.int a2), some (.int v4)] hk dX12_room_27 rfl rfl rfl rfl ?_
    refine vv_iload_n (i := 3) 29 hk dX12_room_28 rfl rfl rfl ?_
    refine vv_jn (fun t5 => (σ, 43, [some (rf G 86), some (.int a1), some (.int a2), some (.int t5)], [])) (fun t5 => ?_) (fun k43 hk43 => ?_)
    · skip
      refine vv_iload_n (i := 3) 44 hk dX12_room_43 rfl rfl rfl ?_
      refine vv_if_eq 53 47 hk dX12_room_44 rfl rfl ?_ ?_
      · skip
        refine vv_aload_n (i := 0) 54 hk dX12_room_53 rfl rfl rfl ?_
        refine vv_invV (st := []) 57 hk he dX12_room_54 rfl ml_12_235 cf_X12_forgets la_86 ci_12 (c_X12_forgets G σ) rfl rfl rfl rfl (fun σ6 => ?_)
        refine vv_aload_n (i := 0) 58 hk dX12_room_57 rfl rfl rfl ?_
        refine vv_getR 61 hk dX12_room_58 rfl la_86 rfl ci_12 rfl fl_12_13 ?_
        refine vv_aload_n (i := 0) 62 hk dX12_room_61 rfl rfl rfl ?_
        refine vv_getI 65 hk he dX12_room_62 rfl la_86 rfl ci_12 rfl fl_12_210 sd_86 ?_
        refine vv_iload_n (i := 1) 66 hk dX12_room_65 rfl rfl rfl ?_
        refine vv_iast 67 hk he dX12_room_66 rfl la_88 sd_88 (fun σ7 => ?_)
        refine vv_aload_n (i := 0) 68 hk dX12_room_67 rfl rfl rfl ?_
        refine vv_getR 71 hk dX12_room_68 rfl la_86 rfl ci_12 rfl fl_12_16 ?_
        refine vv_aload_n (i := 0) 72 hk dX12_room_71 rfl rfl rfl ?_
        refine vv_getI 75 hk he dX12_room_72 rfl la_86 rfl ci_12 rfl fl_12_210 sd_86 ?_
        refine vv_iload_n (i := 2) 76 hk dX12_room_75 rfl rfl rfl ?_
        refine vv_iast 77 hk he dX12_room_76 rfl la_89 sd_89 (fun σ8 => ?_)
        refine vv_aload_n (i := 0) 78 hk dX12_room_77 rfl rfl rfl ?_
        refine vv_getR 81 hk dX12_room_78 rfl la_86 rfl ci_12 rfl fl_12_19 ?_
        refine vv_aload_n (i := 0) 82 hk dX12_room_81 rfl rfl rfl ?_
        refine vv_getI 85 hk he dX12_room_82 rfl la_86 rfl ci_12 rfl fl_12_210 sd_86 ?_
        refine vv_iconst 86 hk dX12_room_85 rfl ic_5 ?_
        refine vv_iast 87 hk he dX12_room_86 rfl la_90 sd_90 (fun σ9 => ?_)
        refine vv_aload_n (i := 0) 88 hk dX12_room_87 rfl rfl rfl ?_
        refine vv_dup 89 hk dX12_room_88 rfl rfl ?_
        refine vv_getI 92 hk he dX12_room_89 rfl la_86 rfl ci_12 rfl fl_12_210 sd_86 ?_
        refine vv_iconst 93 hk dX12_room_92 rfl ic_1 ?_
        refine vv_iadd 94 hk dX12_room_93 rfl ?_
        refine vv_putI 97 hk he dX12_room_94 rfl la_86 rfl ci_12 rfl fl_12_210 sd_86 rfl rfl (fun σ10 => ?_)
        refine vv_aload_n (i := 0) 98 hk dX12_room_97 rfl rfl rfl ?_
        refine vv_getI 101 hk he dX12_room_98 rfl la_86 rfl ci_12 rfl fl_12_210 sd_86 ?_
        refine vv_iconst 102 hk dX12_room_101 rfl ic_1 ?_
        refine vv_isub 103 hk dX12_room_102 rfl ?_
        exact hret _ _ _ _ dX12_room_103
      · skip
        refine vv_aload_n (i := 0) 48 hk dX12_room_47 rfl rfl rfl ?_
        refine vv_iload_n (i := 3) 49 hk dX12_room_48 rfl rfl rfl ?_
        refine vv_invI (st := []) 52 hk he dX12_room_49 rfl ml_12_226 cf_X12_no la_86 ci_12 (c_X12_no G t5 σ) rfl rfl rfl rfl (fun v11 σ12 => ?_)
        exact hret _ _ _ _ dX12_room_52
    · skip
      refine vv_if_ne 43 32 hk dX12_room_29 rfl rfl ?_ ?_
      · skip
        refine vv_aload_n (i := 0) 33 hk dX12_room_32 rfl rfl rfl ?_
        refine vv_getI 36 hk he dX12_room_33 rfl la_86 rfl ci_12 rfl fl_12_210 sd_86 ?_
        refine vv_iconst 37 hk dX12_room_36 rfl ic_5 ?_
        refine vv_icmp_ne 43 40 hk dX12_room_37 rfl rfl ?_ ?_
        · skip
          refine vv_bipush 42 hk dX12_room_40 rfl bp_m6 ?_
          refine vv_istore_n (i := 3) 43 [some (rf G 86), some (.int a1), some (.int a2), some (.int (-6 : Int32))] hk dX12_room_42 rfl rfl rfl rfl ?_
          exact vv_le (ll_s rfl (ll_s rfl (ll_s rfl (ll_s rfl ll_0)))) (hk43 (-6 : Int32))
        · skip
          exact vv_le (ll_s rfl (ll_s rfl (ll_s rfl (ll_s rfl ll_0)))) (hk43 v4)
      · skip
        exact vv_le (ll_s rfl (ll_s rfl (ll_s rfl (ll_s rfl ll_0)))) (hk43 v4)
theorem c_X12_rule (G : GT) (σ : Hp) : CtI G false yX12_rule cX12_rule 4 (some .int) 4 [(rf G 86)] (f_X12_rule σ) σ := by
  refine ctI (L0 := [some (rf G 86), none, none, none]) (by decide +kernel) rfl rfl rfl (fun κ hk he hret => ?_)
  have hk : KO G κ cX12_rule RX12 4 := hk
  refine vv_aload_n (i := 0) 1 hk dX12_rule_0 rfl rfl rfl ?_
  refine vv_getI 4 hk he dX12_rule_1 rfl la_86 rfl ci_12 rfl fl_12_336 sd_86 ?_
  refine vv_bipush 6 hk dX12_rule_4 rfl bp_16 ?_
  refine vv_icmp_ne 16 9 hk dX12_rule_6 rfl rfl ?_ ?_
  · skip
    refine vv_aload_n (i := 0) 10 hk dX12_rule_9 rfl rfl rfl ?_
    refine vv_bipush 12 hk dX12_rule_10 rfl bp_m6 ?_
    refine vv_invI (st := []) 15 hk he dX12_rule_12 rfl ml_12_226 cf_X12_no la_86 ci_12 (c_X12_no G (-6 : Int32) σ) rfl rfl rfl rfl (fun v1 σ2 => ?_)
    exact hret _ _ _ _ dX12_rule_15
  · skip
    refine vv_aload_n (i := 0) 17 hk dX12_rule_16 rfl rfl rfl ?_
    refine vv_invI (st := []) 20 hk he dX12_rule_17 rfl ml_12_339 cf_X12_parses la_86 ci_12 (c_X12_parses G σ) rfl rfl rfl rfl (fun v3 σ4 => ?_)
    refine vv_istore_n (i := 1) 21 [some (rf G 86), some (.int v3), none, none] hk dX12_rule_20 rfl rfl rfl rfl ?_
    refine vv_aload_n (i := 0) 22 hk dX12_rule_21 rfl rfl rfl ?_
    refine vv_getI 25 hk he dX12_rule_22 rfl la_86 rfl ci_12 rfl fl_12_308 sd_86 ?_
    refine vv_istore_nL (i := 2) 26 (fun x5 => [some (rf G 86), some (.int v3), some (.int x5), none]) hk dX12_rule_25 rfl rfl rfl (fun _ => rfl) (fun x5 => ?_)
    refine vv_aload_n (i := 0) 27 hk dX12_rule_26 rfl rfl rfl ?_
    refine vv_iconst 28 hk dX12_rule_27 rfl ic_0 ?_
    refine vv_putI 31 hk he dX12_rule_28 rfl la_86 rfl ci_12 rfl fl_12_308 sd_86 rfl rfl (fun σ6 => ?_)
    refine vv_iload_n (i := 1) 32 hk dX12_rule_31 rfl rfl rfl ?_
    refine vv_if_ne 43 35 hk dX12_rule_32 rfl rfl ?_ ?_
    · skip
      refine vv_bipush 37 hk dX12_rule_35 rfl bp_m20 ?_
      refine vv_aload_n (i := 0) 38 hk dX12_rule_37 rfl rfl rfl ?_
      refine vv_getI 41 hk he dX12_rule_38 rfl la_86 rfl ci_12 rfl fl_12_313 sd_86 ?_
      refine vv_isub 42 hk dX12_rule_41 rfl ?_
      exact hret _ _ _ _ dX12_rule_42
    · skip
      refine vv_iconst 44 hk dX12_rule_43 rfl ic_0 ?_
      refine vv_istore_n (i := 3) 45 [some (rf G 86), some (.int v3), some (.int x5), some (.int (0 : Int32))] hk dX12_rule_44 rfl rfl rfl rfl ?_
      refine vv_jn (fun t7 => (t7, 76, [some (rf G 86), none, some (.int x5), none], [])) (fun t7 => ?_) (fun k76 hk76 => ?_)
      · skip
        refine vv_aload_n (i := 0) 77 hk dX12_rule_76 rfl rfl rfl ?_
        refine vv_getR 80 hk dX12_rule_77 rfl la_86 rfl ci_12 rfl fl_12_101 ?_
        refine vv_aload_n (i := 0) 81 hk dX12_rule_80 rfl rfl rfl ?_
        refine vv_getI 84 hk he dX12_rule_81 rfl la_86 rfl ci_12 rfl fl_12_336 sd_86 ?_
        refine vv_iload_n (i := 2) 85 hk dX12_rule_84 rfl rfl rfl ?_
        refine vv_iast 86 hk he dX12_rule_85 rfl la_117 sd_117 (fun σ8 => ?_)
        refine vv_aload_n (i := 0) 87 hk dX12_rule_86 rfl rfl rfl ?_
        refine vv_getR 90 hk dX12_rule_87 rfl la_86 rfl ci_12 rfl fl_12_107 ?_
        refine vv_aload_n (i := 0) 91 hk dX12_rule_90 rfl rfl rfl ?_
        refine vv_getI 94 hk he dX12_rule_91 rfl la_86 rfl ci_12 rfl fl_12_336 sd_86 ?_
        refine vv_iconst 95 hk dX12_rule_94 rfl ic_0 ?_
        refine vv_zast 96 hk he dX12_rule_95 rfl la_119 sd_119 (fun σ9 => ?_)
        refine vv_aload_n (i := 0) 97 hk dX12_rule_96 rfl rfl rfl ?_
        refine vv_dup 98 hk dX12_rule_97 rfl rfl ?_
        refine vv_getI 101 hk he dX12_rule_98 rfl la_86 rfl ci_12 rfl fl_12_336 sd_86 ?_
        refine vv_iconst 102 hk dX12_rule_101 rfl ic_1 ?_
        refine vv_iadd 103 hk dX12_rule_102 rfl ?_
        refine vv_putI 106 hk he dX12_rule_103 rfl la_86 rfl ci_12 rfl fl_12_336 sd_86 rfl rfl (fun σ10 => ?_)
        refine vv_aload_n (i := 0) 107 hk dX12_rule_106 rfl rfl rfl ?_
        refine vv_getI 110 hk he dX12_rule_107 rfl la_86 rfl ci_12 rfl fl_12_336 sd_86 ?_
        refine vv_iconst 111 hk dX12_rule_110 rfl ic_1 ?_
        refine vv_isub 112 hk dX12_rule_111 rfl ?_
        exact hret _ _ _ _ dX12_rule_112
      · skip
        refine vv_le (L' := [some (rf G 86), none, some (.int x5), some (.int (0 : Int32))]) (ll_s rfl (ll_n (ll_s rfl (ll_s rfl ll_0)))) ?_
        refine vv_lp (fun t11 => (t11.2, 45, [some (rf G 86), none, some (.int x5), some (.int t11.1)], [])) (fun kl45 hkl45 t11 => ?_) FU ((0 : Int32), σ6)
        refine vv_iload_n (i := 3) 46 hk dX12_rule_45 rfl rfl rfl ?_
        refine vv_iload_n (i := 2) 47 hk dX12_rule_46 rfl rfl rfl ?_
        refine vv_icmp_ge 76 50 hk dX12_rule_47 rfl rfl ?_ ?_
        · skip
          exact vv_le (ll_s rfl (ll_n (ll_s rfl (ll_n ll_0)))) (hk76 t11.2)
        · skip
          refine vv_aload_n (i := 0) 51 hk dX12_rule_50 rfl rfl rfl ?_
          refine vv_getR 54 hk dX12_rule_51 rfl la_86 rfl ci_12 rfl fl_12_98 ?_
          refine vv_bipush 56 hk dX12_rule_54 rfl bp_40 ?_
          refine vv_aload_n (i := 0) 57 hk dX12_rule_56 rfl rfl rfl ?_
          refine vv_getI 60 hk he dX12_rule_57 rfl la_86 rfl ci_12 rfl fl_12_336 sd_86 ?_
          refine vv_imul 61 hk dX12_rule_60 rfl ?_
          refine vv_iload_n (i := 3) 62 hk dX12_rule_61 rfl rfl rfl ?_
          refine vv_iadd 63 hk dX12_rule_62 rfl ?_
          refine vv_aload_n (i := 0) 64 hk dX12_rule_63 rfl rfl rfl ?_
          refine vv_getR 67 hk dX12_rule_64 rfl la_86 rfl ci_12 rfl fl_12_95 ?_
          refine vv_iload_n (i := 3) 68 hk dX12_rule_67 rfl rfl rfl ?_
          refine vv_iald 69 hk he dX12_rule_68 rfl la_115 sd_115 (fun v12 => ?_)
          refine vv_iast 70 hk he dX12_rule_69 rfl la_116 sd_116 (fun σ13 => ?_)
          refine vv_iinc 73 (fun x14 => [some (rf G 86), none, some (.int x5), some (.int x14)]) hk dX12_rule_70 rfl rfl ic_1 (fun _ => rfl) (fun x14 => ?_)
          refine vv_goto 45 hk dX12_rule_73 rfl ?_
          exact vv_le (ll_s rfl (ll_n (ll_s rfl (ll_s rfl ll_0)))) (hkl45 (x14, σ13))
theorem c_X12_seen (G : GT) (a1 : Int32) (a2 : Int32) (σ : Hp) : CtI G false yX12_seen cX12_seen 4 (some .int) 1 [(rf G 86), (.int a1), (.int a2)] (f_X12_seen a1 a2 σ) σ := by
  refine ctI (L0 := [some (rf G 86), some (.int a1), some (.int a2), none]) (by decide +kernel) rfl rfl rfl (fun κ hk he hret => ?_)
  have hk : KO G κ cX12_seen RX12 1 := hk
  refine vv_iload_n (i := 1) 1 hk dX12_seen_0 rfl rfl rfl ?_
  refine vv_i2l 2 hk dX12_seen_1 rfl ?_
  refine vv_lconst 3 hk dX12_seen_2 rfl lc_0 ?_
  refine vv_ldc2 6 hk dX12_seen_3 rfl cw_12_428 ?_
  refine vv_staIr (st := []) 9 hk he dX12_seen_6 rfl ml_12_232 sf_X12_out (c_X12_out G a1.toInt64 (0 : Int64) (9999 : Int64) σ) rfl rfl rfl rfl (fun v1 => ?_)
  refine vv_istore_n (i := 3) 10 [some (rf G 86), some (.int a1), some (.int a2), some (.int v1)] hk dX12_seen_9 rfl rfl rfl rfl ?_
  refine vv_iload_n (i := 3) 11 hk dX12_seen_10 rfl rfl rfl ?_
  refine vv_jn (fun t2 => (σ, 26, [some (rf G 86), some (.int a1), some (.int a2), some (.int t2)], [])) (fun t2 => ?_) (fun k26 hk26 => ?_)
  · skip
    refine vv_iload_n (i := 3) 27 hk dX12_seen_26 rfl rfl rfl ?_
    refine vv_if_eq 36 30 hk dX12_seen_27 rfl rfl ?_ ?_
    · skip
      refine vv_aload_n (i := 0) 37 hk dX12_seen_36 rfl rfl rfl ?_
      refine vv_getR 40 hk dX12_seen_37 rfl la_86 rfl ci_12 rfl fl_12_189 ?_
      refine vv_aload_n (i := 0) 41 hk dX12_seen_40 rfl rfl rfl ?_
      refine vv_getI 44 hk he dX12_seen_41 rfl la_86 rfl ci_12 rfl fl_12_449 sd_86 ?_
      refine vv_iload_n (i := 1) 45 hk dX12_seen_44 rfl rfl rfl ?_
      refine vv_iast 46 hk he dX12_seen_45 rfl la_146 sd_146 (fun σ3 => ?_)
      refine vv_aload_n (i := 0) 47 hk dX12_seen_46 rfl rfl rfl ?_
      refine vv_getR 50 hk dX12_seen_47 rfl la_86 rfl ci_12 rfl fl_12_195 ?_
      refine vv_aload_n (i := 0) 51 hk dX12_seen_50 rfl rfl rfl ?_
      refine vv_getI 54 hk he dX12_seen_51 rfl la_86 rfl ci_12 rfl fl_12_449 sd_86 ?_
      refine vv_iload_n (i := 2) 55 hk dX12_seen_54 rfl rfl rfl ?_
      refine vv_zast 56 hk he dX12_seen_55 rfl la_148 sd_148 (fun σ4 => ?_)
      refine vv_aload_n (i := 0) 57 hk dX12_seen_56 rfl rfl rfl ?_
      refine vv_dup 58 hk dX12_seen_57 rfl rfl ?_
      refine vv_getI 61 hk he dX12_seen_58 rfl la_86 rfl ci_12 rfl fl_12_449 sd_86 ?_
      refine vv_iconst 62 hk dX12_seen_61 rfl ic_1 ?_
      refine vv_iadd 63 hk dX12_seen_62 rfl ?_
      refine vv_putI 66 hk he dX12_seen_63 rfl la_86 rfl ci_12 rfl fl_12_449 sd_86 rfl rfl (fun σ5 => ?_)
      refine vv_aload_n (i := 0) 67 hk dX12_seen_66 rfl rfl rfl ?_
      refine vv_getI 70 hk he dX12_seen_67 rfl la_86 rfl ci_12 rfl fl_12_449 sd_86 ?_
      exact hret _ _ _ _ dX12_seen_70
    · skip
      refine vv_aload_n (i := 0) 31 hk dX12_seen_30 rfl rfl rfl ?_
      refine vv_iload_n (i := 3) 32 hk dX12_seen_31 rfl rfl rfl ?_
      refine vv_invI (st := []) 35 hk he dX12_seen_32 rfl ml_12_226 cf_X12_no la_86 ci_12 (c_X12_no G t2 σ) rfl rfl rfl rfl (fun v6 σ7 => ?_)
      exact hret _ _ _ _ dX12_seen_35
  · skip
    refine vv_if_ne 26 14 hk dX12_seen_11 rfl rfl ?_ ?_
    · skip
      refine vv_aload_n (i := 0) 15 hk dX12_seen_14 rfl rfl rfl ?_
      refine vv_getI 18 hk he dX12_seen_15 rfl la_86 rfl ci_12 rfl fl_12_449 sd_86 ?_
      refine vv_bipush 20 hk dX12_seen_18 rfl bp_20 ?_
      refine vv_icmp_ne 26 23 hk dX12_seen_20 rfl rfl ?_ ?_
      · skip
        refine vv_bipush 25 hk dX12_seen_23 rfl bp_m6 ?_
        refine vv_istore_n (i := 3) 26 [some (rf G 86), some (.int a1), some (.int a2), some (.int (-6 : Int32))] hk dX12_seen_25 rfl rfl rfl rfl ?_
        exact vv_le (ll_s rfl (ll_s rfl (ll_s rfl (ll_s rfl ll_0)))) (hk26 (-6 : Int32))
      · skip
        exact vv_le (ll_s rfl (ll_s rfl (ll_s rfl (ll_s rfl ll_0)))) (hk26 v1)
    · skip
      exact vv_le (ll_s rfl (ll_s rfl (ll_s rfl (ll_s rfl ll_0)))) (hk26 v1)
theorem c_X12_sees (G : GT) (a1 : Int32) (a2 : Int32) (a3 : Int32) (σ : Hp) : CtI G false yX12_sees cX12_sees 6 (some .int) 1 [(rf G 86), (.int a1), (.int a2), (.int a3)] (f_X12_sees a1 a2 a3 σ) σ := by
  refine ctI (L0 := [some (rf G 86), some (.int a1), some (.int a2), some (.int a3), none, none]) (by decide +kernel) rfl rfl rfl (fun κ hk he hret => ?_)
  have hk : KO G κ cX12_sees RX12 1 := hk
  refine vv_iload_n (i := 1) 1 hk dX12_sees_0 rfl rfl rfl ?_
  refine vv_i2l 2 hk dX12_sees_1 rfl ?_
  refine vv_lconst 3 hk dX12_sees_2 rfl lc_0 ?_
  refine vv_ldc2 6 hk dX12_sees_3 rfl cw_12_290 ?_
  refine vv_staIr (st := []) 9 hk he dX12_sees_6 rfl ml_12_222 sf_X12_isIn (c_X12_isIn G a1.toInt64 (0 : Int64) (2 : Int64) σ) rfl rfl rfl rfl (fun v1 => ?_)
  refine vv_jn (fun t2 => (σ, 19, [some (rf G 86), none, none, none, none, none], [])) (fun t2 => ?_) (fun k19 hk19 => ?_)
  · skip
    refine vv_aload_n (i := 0) 20 hk dX12_sees_19 rfl rfl rfl ?_
    refine vv_iconst 21 hk dX12_sees_20 rfl ic_m1 ?_
    refine vv_invI (st := []) 24 hk he dX12_sees_21 rfl ml_12_226 cf_X12_no la_86 ci_12 (c_X12_no G (-1 : Int32) σ) rfl rfl rfl rfl (fun v3 σ4 => ?_)
    exact hret _ _ _ _ dX12_sees_24
  · skip
    refine vv_if_eq 19 12 hk dX12_sees_9 rfl rfl ?_ ?_
    · skip
      exact vv_le (ll_s rfl (ll_n (ll_n (ll_n (ll_n (ll_n ll_0)))))) (hk19 ())
    · skip
      refine vv_iload_n (i := 2) 13 hk dX12_sees_12 rfl rfl rfl ?_
      refine vv_staIr (st := []) 16 hk he dX12_sees_13 rfl ml_12_244 sf_X12_isGas (c_X12_isGas G a2 σ) rfl rfl rfl rfl (fun v5 => ?_)
      refine vv_if_ne 25 19 hk dX12_sees_16 rfl rfl ?_ ?_
      · skip
        exact vv_le (ll_s rfl (ll_n (ll_n (ll_n (ll_n (ll_n ll_0)))))) (hk19 ())
      · skip
        refine vv_iload_n (i := 3) 26 hk dX12_sees_25 rfl rfl rfl ?_
        refine vv_i2l 27 hk dX12_sees_26 rfl ?_
        refine vv_lconst 28 hk dX12_sees_27 rfl lc_0 ?_
        refine vv_ldc2 31 hk dX12_sees_28 rfl cw_12_242 ?_
        refine vv_staIr (st := []) 34 hk he dX12_sees_31 rfl ml_12_232 sf_X12_out (c_X12_out G a3.toInt64 (0 : Int64) (9 : Int64) σ) rfl rfl rfl rfl (fun v6 => ?_)
        refine vv_istore 36 [some (rf G 86), some (.int a1), some (.int a2), some (.int a3), some (.int v6), none] hk dX12_sees_34 rfl rfl rfl ?_
        refine vv_iload 38 hk dX12_sees_36 rfl rfl ?_
        refine vv_if_eq 48 41 hk dX12_sees_38 rfl rfl ?_ ?_
        · skip
          refine vv_aload_n (i := 0) 49 hk dX12_sees_48 rfl rfl rfl ?_
          refine vv_getR 52 hk dX12_sees_49 rfl la_86 rfl ci_12 rfl fl_12_162 ?_
          refine vv_iconst 53 hk dX12_sees_52 rfl ic_3 ?_
          refine vv_iload_n (i := 1) 54 hk dX12_sees_53 rfl rfl rfl ?_
          refine vv_imul 55 hk dX12_sees_54 rfl ?_
          refine vv_iload_n (i := 2) 56 hk dX12_sees_55 rfl rfl rfl ?_
          refine vv_iadd 57 hk dX12_sees_56 rfl ?_
          refine vv_iald 58 hk he dX12_sees_57 rfl la_137 sd_137 (fun v7 => ?_)
          refine vv_istore 60 [some (rf G 86), some (.int a1), some (.int a2), some (.int a3), some (.int v6), some (.int v7)] hk dX12_sees_58 rfl rfl rfl ?_
          refine vv_aload_n (i := 0) 61 hk dX12_sees_60 rfl rfl rfl ?_
          refine vv_getR 64 hk dX12_sees_61 rfl la_86 rfl ci_12 rfl fl_12_162 ?_
          refine vv_iconst 65 hk dX12_sees_64 rfl ic_3 ?_
          refine vv_iload_n (i := 1) 66 hk dX12_sees_65 rfl rfl rfl ?_
          refine vv_imul 67 hk dX12_sees_66 rfl ?_
          refine vv_iload_n (i := 2) 68 hk dX12_sees_67 rfl rfl rfl ?_
          refine vv_iadd 69 hk dX12_sees_68 rfl ?_
          refine vv_iload_n (i := 3) 70 hk dX12_sees_69 rfl rfl rfl ?_
          refine vv_iast 71 hk he dX12_sees_70 rfl la_137 sd_137 (fun σ8 => ?_)
          refine vv_iload 73 hk dX12_sees_71 rfl rfl ?_
          exact hret _ _ _ _ dX12_sees_73
        · skip
          refine vv_aload_n (i := 0) 42 hk dX12_sees_41 rfl rfl rfl ?_
          refine vv_iload 44 hk dX12_sees_42 rfl rfl ?_
          refine vv_invI (st := []) 47 hk he dX12_sees_44 rfl ml_12_226 cf_X12_no la_86 ci_12 (c_X12_no G v6 σ) rfl rfl rfl rfl (fun v9 σ10 => ?_)
          exact hret _ _ _ _ dX12_sees_47
theorem c_X12_spray (G : GT) (a1 : Int32) (a2 : Int32) (σ : Hp) : CtI G false yX12_spray cX12_spray 4 (some .int) 1 [(rf G 86), (.int a1), (.int a2)] (f_X12_spray a1 a2 σ) σ := by
  refine ctI (L0 := [some (rf G 86), some (.int a1), some (.int a2), none]) (by decide +kernel) rfl rfl rfl (fun κ hk he hret => ?_)
  have hk : KO G κ cX12_spray RX12 1 := hk
  refine vv_iload_n (i := 1) 1 hk dX12_spray_0 rfl rfl rfl ?_
  refine vv_i2l 2 hk dX12_spray_1 rfl ?_
  refine vv_lconst 3 hk dX12_spray_2 rfl lc_0 ?_
  refine vv_ldc2 6 hk dX12_spray_3 rfl cw_12_430 ?_
  refine vv_staIr (st := []) 9 hk he dX12_spray_6 rfl ml_12_222 sf_X12_isIn (c_X12_isIn G a1.toInt64 (0 : Int64) (7 : Int64) σ) rfl rfl rfl rfl (fun v1 => ?_)
  refine vv_if_ne 18 12 hk dX12_spray_9 rfl rfl ?_ ?_
  · skip
    refine vv_aload_n (i := 0) 13 hk dX12_spray_12 rfl rfl rfl ?_
    refine vv_iconst 14 hk dX12_spray_13 rfl ic_m1 ?_
    refine vv_invI (st := []) 17 hk he dX12_spray_14 rfl ml_12_226 cf_X12_no la_86 ci_12 (c_X12_no G (-1 : Int32) σ) rfl rfl rfl rfl (fun v2 σ3 => ?_)
    exact hret _ _ _ _ dX12_spray_17
  · skip
    refine vv_iload_n (i := 2) 19 hk dX12_spray_18 rfl rfl rfl ?_
    refine vv_i2l 20 hk dX12_spray_19 rfl ?_
    refine vv_lconst 21 hk dX12_spray_20 rfl lc_0 ?_
    refine vv_ldc2 24 hk dX12_spray_21 rfl cw_12_428 ?_
    refine vv_staIr (st := []) 27 hk he dX12_spray_24 rfl ml_12_232 sf_X12_out (c_X12_out G a2.toInt64 (0 : Int64) (9999 : Int64) σ) rfl rfl rfl rfl (fun v4 => ?_)
    refine vv_istore_n (i := 3) 28 [some (rf G 86), some (.int a1), some (.int a2), some (.int v4)] hk dX12_spray_27 rfl rfl rfl rfl ?_
    refine vv_iload_n (i := 3) 29 hk dX12_spray_28 rfl rfl rfl ?_
    refine vv_jn (fun t5 => (σ, 44, [some (rf G 86), some (.int a1), some (.int a2), some (.int t5)], [])) (fun t5 => ?_) (fun k44 hk44 => ?_)
    · skip
      refine vv_iload_n (i := 3) 45 hk dX12_spray_44 rfl rfl rfl ?_
      refine vv_if_eq 54 48 hk dX12_spray_45 rfl rfl ?_ ?_
      · skip
        refine vv_aload_n (i := 0) 55 hk dX12_spray_54 rfl rfl rfl ?_
        refine vv_getR 58 hk dX12_spray_55 rfl la_86 rfl ci_12 rfl fl_12_183 ?_
        refine vv_aload_n (i := 0) 59 hk dX12_spray_58 rfl rfl rfl ?_
        refine vv_getI 62 hk he dX12_spray_59 rfl la_86 rfl ci_12 rfl fl_12_446 sd_86 ?_
        refine vv_iload_n (i := 1) 63 hk dX12_spray_62 rfl rfl rfl ?_
        refine vv_iast 64 hk he dX12_spray_63 rfl la_144 sd_144 (fun σ6 => ?_)
        refine vv_aload_n (i := 0) 65 hk dX12_spray_64 rfl rfl rfl ?_
        refine vv_getR 68 hk dX12_spray_65 rfl la_86 rfl ci_12 rfl fl_12_186 ?_
        refine vv_aload_n (i := 0) 69 hk dX12_spray_68 rfl rfl rfl ?_
        refine vv_getI 72 hk he dX12_spray_69 rfl la_86 rfl ci_12 rfl fl_12_446 sd_86 ?_
        refine vv_iload_n (i := 2) 73 hk dX12_spray_72 rfl rfl rfl ?_
        refine vv_iast 74 hk he dX12_spray_73 rfl la_145 sd_145 (fun σ7 => ?_)
        refine vv_aload_n (i := 0) 75 hk dX12_spray_74 rfl rfl rfl ?_
        refine vv_dup 76 hk dX12_spray_75 rfl rfl ?_
        refine vv_getI 79 hk he dX12_spray_76 rfl la_86 rfl ci_12 rfl fl_12_446 sd_86 ?_
        refine vv_iconst 80 hk dX12_spray_79 rfl ic_1 ?_
        refine vv_iadd 81 hk dX12_spray_80 rfl ?_
        refine vv_putI 84 hk he dX12_spray_81 rfl la_86 rfl ci_12 rfl fl_12_446 sd_86 rfl rfl (fun σ8 => ?_)
        refine vv_aload_n (i := 0) 85 hk dX12_spray_84 rfl rfl rfl ?_
        refine vv_getI 88 hk he dX12_spray_85 rfl la_86 rfl ci_12 rfl fl_12_446 sd_86 ?_
        exact hret _ _ _ _ dX12_spray_88
      · skip
        refine vv_aload_n (i := 0) 49 hk dX12_spray_48 rfl rfl rfl ?_
        refine vv_iload_n (i := 3) 50 hk dX12_spray_49 rfl rfl rfl ?_
        refine vv_invI (st := []) 53 hk he dX12_spray_50 rfl ml_12_226 cf_X12_no la_86 ci_12 (c_X12_no G t5 σ) rfl rfl rfl rfl (fun v9 σ10 => ?_)
        exact hret _ _ _ _ dX12_spray_53
    · skip
      refine vv_if_ne 44 32 hk dX12_spray_29 rfl rfl ?_ ?_
      · skip
        refine vv_aload_n (i := 0) 33 hk dX12_spray_32 rfl rfl rfl ?_
        refine vv_getI 36 hk he dX12_spray_33 rfl la_86 rfl ci_12 rfl fl_12_446 sd_86 ?_
        refine vv_bipush 38 hk dX12_spray_36 rfl bp_20 ?_
        refine vv_icmp_ne 44 41 hk dX12_spray_38 rfl rfl ?_ ?_
        · skip
          refine vv_bipush 43 hk dX12_spray_41 rfl bp_m6 ?_
          refine vv_istore_n (i := 3) 44 [some (rf G 86), some (.int a1), some (.int a2), some (.int (-6 : Int32))] hk dX12_spray_43 rfl rfl rfl rfl ?_
          exact vv_le (ll_s rfl (ll_s rfl (ll_s rfl (ll_s rfl ll_0)))) (hk44 (-6 : Int32))
        · skip
          exact vv_le (ll_s rfl (ll_s rfl (ll_s rfl (ll_s rfl ll_0)))) (hk44 v4)
      · skip
        exact vv_le (ll_s rfl (ll_s rfl (ll_s rfl (ll_s rfl ll_0)))) (hk44 v4)
theorem c_X12_square (G : GT) (a1 : Int32) (a2 : Int32) (a3 : Int32) (σ : Hp) : CtI G false yX12_square cX12_square 5 (some .int) 1 [(rf G 86), (.int a1), (.int a2), (.int a3)] (f_X12_square a1 a2 a3 σ) σ := by
  refine ctI (L0 := [some (rf G 86), some (.int a1), some (.int a2), some (.int a3), none]) (by decide +kernel) rfl rfl rfl (fun κ hk he hret => ?_)
  have hk : KO G κ cX12_square RX12 1 := hk
  refine vv_iload_n (i := 1) 1 hk dX12_square_0 rfl rfl rfl ?_
  refine vv_i2l 2 hk dX12_square_1 rfl ?_
  refine vv_lconst 3 hk dX12_square_2 rfl lc_0 ?_
  refine vv_ldc2 6 hk dX12_square_3 rfl cw_12_300 ?_
  refine vv_staIr (st := []) 9 hk he dX12_square_6 rfl ml_12_222 sf_X12_isIn (c_X12_isIn G a1.toInt64 (0 : Int64) (4 : Int64) σ) rfl rfl rfl rfl (fun v1 => ?_)
  refine vv_jn (fun t2 => (σ, 24, [some (rf G 86), none, none, none, none], [])) (fun t2 => ?_) (fun k24 hk24 => ?_)
  · skip
    refine vv_aload_n (i := 0) 25 hk dX12_square_24 rfl rfl rfl ?_
    refine vv_iconst 26 hk dX12_square_25 rfl ic_m1 ?_
    refine vv_invI (st := []) 29 hk he dX12_square_26 rfl ml_12_226 cf_X12_no la_86 ci_12 (c_X12_no G (-1 : Int32) σ) rfl rfl rfl rfl (fun v3 σ4 => ?_)
    exact hret _ _ _ _ dX12_square_29
  · skip
    refine vv_if_eq 24 12 hk dX12_square_9 rfl rfl ?_ ?_
    · skip
      exact vv_le (ll_s rfl (ll_n (ll_n (ll_n (ll_n ll_0))))) (hk24 ())
    · skip
      refine vv_iload_n (i := 2) 13 hk dX12_square_12 rfl rfl rfl ?_
      refine vv_i2l 14 hk dX12_square_13 rfl ?_
      refine vv_lconst 15 hk dX12_square_14 rfl lc_0 ?_
      refine vv_ldc2 18 hk dX12_square_15 rfl cw_12_300 ?_
      refine vv_staIr (st := []) 21 hk he dX12_square_18 rfl ml_12_222 sf_X12_isIn (c_X12_isIn G a2.toInt64 (0 : Int64) (4 : Int64) σ) rfl rfl rfl rfl (fun v5 => ?_)
      refine vv_if_ne 30 24 hk dX12_square_21 rfl rfl ?_ ?_
      · skip
        exact vv_le (ll_s rfl (ll_n (ll_n (ll_n (ll_n ll_0))))) (hk24 ())
      · skip
        refine vv_aload_n (i := 0) 31 hk dX12_square_30 rfl rfl rfl ?_
        refine vv_getR 34 hk dX12_square_31 rfl la_86 rfl ci_12 rfl fl_12_147 ?_
        refine vv_iconst 35 hk dX12_square_34 rfl ic_5 ?_
        refine vv_iload_n (i := 1) 36 hk dX12_square_35 rfl rfl rfl ?_
        refine vv_imul 37 hk dX12_square_36 rfl ?_
        refine vv_iload_n (i := 2) 38 hk dX12_square_37 rfl rfl rfl ?_
        refine vv_iadd 39 hk dX12_square_38 rfl ?_
        refine vv_zald 40 hk he dX12_square_39 rfl la_132 sd_132 (fun v6 => ?_)
        refine vv_iload_n (i := 3) 41 hk dX12_square_40 rfl rfl rfl ?_
        refine vv_jn (fun t7 => (σ, 49, [some (rf G 86), some (.int a1), some (.int a2), some (.int a3), none], [(.int t7)])) (fun t7 => ?_) (fun k49 hk49 => ?_)
        · skip
          refine vv_istore 51 [some (rf G 86), some (.int a1), some (.int a2), some (.int a3), some (.int t7)] hk dX12_square_49 rfl rfl rfl ?_
          refine vv_aload_n (i := 0) 52 hk dX12_square_51 rfl rfl rfl ?_
          refine vv_getR 55 hk dX12_square_52 rfl la_86 rfl ci_12 rfl fl_12_147 ?_
          refine vv_iconst 56 hk dX12_square_55 rfl ic_5 ?_
          refine vv_iload_n (i := 1) 57 hk dX12_square_56 rfl rfl rfl ?_
          refine vv_imul 58 hk dX12_square_57 rfl ?_
          refine vv_iload_n (i := 2) 59 hk dX12_square_58 rfl rfl rfl ?_
          refine vv_iadd 60 hk dX12_square_59 rfl ?_
          refine vv_iload_n (i := 3) 61 hk dX12_square_60 rfl rfl rfl ?_
          refine vv_zast 62 hk he dX12_square_61 rfl la_132 sd_132 (fun σ8 => ?_)
          refine vv_iload 64 hk dX12_square_62 rfl rfl ?_
          exact hret _ _ _ _ dX12_square_64
        · skip
          refine vv_icmp_eq 48 44 hk dX12_square_41 rfl rfl ?_ ?_
          · skip
            refine vv_iconst 49 hk dX12_square_48 rfl ic_0 ?_
            exact vv_le (ll_s rfl (ll_s rfl (ll_s rfl (ll_s rfl (ll_n ll_0))))) (hk49 (0 : Int32))
          · skip
            refine vv_iconst 45 hk dX12_square_44 rfl ic_1 ?_
            refine vv_goto 49 hk dX12_square_45 rfl ?_
            exact vv_le (ll_s rfl (ll_s rfl (ll_s rfl (ll_s rfl (ll_n ll_0))))) (hk49 (1 : Int32))
theorem c_X12_stage (G : GT) (a1 : Int32) (a2 : Int32) (a3 : Int32) (a4 : Int32) (a5 : Int32) (σ : Hp) : CtI G false yX12_stage cX12_stage 7 (some .int) 1 [(rf G 86), (.int a1), (.int a2), (.int a3), (.int a4), (.int a5)] (f_X12_stage a1 a2 a3 a4 a5 σ) σ := by
  refine ctI (L0 := [some (rf G 86), some (.int a1), some (.int a2), some (.int a3), some (.int a4), some (.int a5), none]) (by decide +kernel) rfl rfl rfl (fun κ hk he hret => ?_)
  have hk : KO G κ cX12_stage RX12 1 := hk
  refine vv_iload_n (i := 1) 1 hk dX12_stage_0 rfl rfl rfl ?_
  refine vv_i2l 2 hk dX12_stage_1 rfl ?_
  refine vv_lconst 3 hk dX12_stage_2 rfl lc_0 ?_
  refine vv_ldc2 6 hk dX12_stage_3 rfl cw_12_220 ?_
  refine vv_staIr (st := []) 9 hk he dX12_stage_6 rfl ml_12_222 sf_X12_isIn (c_X12_isIn G a1.toInt64 (0 : Int64) (3 : Int64) σ) rfl rfl rfl rfl (fun v1 => ?_)
  refine vv_if_ne 18 12 hk dX12_stage_9 rfl rfl ?_ ?_
  · skip
    refine vv_aload_n (i := 0) 13 hk dX12_stage_12 rfl rfl rfl ?_
    refine vv_iconst 14 hk dX12_stage_13 rfl ic_m1 ?_
    refine vv_invI (st := []) 17 hk he dX12_stage_14 rfl ml_12_226 cf_X12_no la_86 ci_12 (c_X12_no G (-1 : Int32) σ) rfl rfl rfl rfl (fun v2 σ3 => ?_)
    exact hret _ _ _ _ dX12_stage_17
  · skip
    refine vv_iload_n (i := 2) 19 hk dX12_stage_18 rfl rfl rfl ?_
    refine vv_jn (fun t4 => (σ, 76, [some (rf G 86), some (.int a1), some (.int a2), some (.int a3), some (.int a4), some (.int a5), none], [(.int t4)])) (fun t4 => ?_) (fun k76 hk76 => ?_)
    · skip
      refine vv_istore 78 [some (rf G 86), some (.int a1), some (.int a2), some (.int a3), some (.int a4), some (.int a5), some (.int t4)] hk dX12_stage_76 rfl rfl rfl ?_
      refine vv_iload 80 hk dX12_stage_78 rfl rfl ?_
      refine vv_if_eq 90 83 hk dX12_stage_80 rfl rfl ?_ ?_
      · skip
        refine vv_aload_n (i := 0) 91 hk dX12_stage_90 rfl rfl rfl ?_
        refine vv_getR 94 hk dX12_stage_91 rfl la_86 rfl ci_12 rfl fl_12_168 ?_
        refine vv_iload_n (i := 1) 95 hk dX12_stage_94 rfl rfl rfl ?_
        refine vv_iload_n (i := 2) 96 hk dX12_stage_95 rfl rfl rfl ?_
        refine vv_iast 97 hk he dX12_stage_96 rfl la_139 sd_139 (fun σ5 => ?_)
        refine vv_aload_n (i := 0) 98 hk dX12_stage_97 rfl rfl rfl ?_
        refine vv_getR 101 hk dX12_stage_98 rfl la_86 rfl ci_12 rfl fl_12_171 ?_
        refine vv_iload_n (i := 1) 102 hk dX12_stage_101 rfl rfl rfl ?_
        refine vv_iload_n (i := 3) 103 hk dX12_stage_102 rfl rfl rfl ?_
        refine vv_iast 104 hk he dX12_stage_103 rfl la_140 sd_140 (fun σ6 => ?_)
        refine vv_aload_n (i := 0) 105 hk dX12_stage_104 rfl rfl rfl ?_
        refine vv_getR 108 hk dX12_stage_105 rfl la_86 rfl ci_12 rfl fl_12_174 ?_
        refine vv_iload_n (i := 1) 109 hk dX12_stage_108 rfl rfl rfl ?_
        refine vv_iload 111 hk dX12_stage_109 rfl rfl ?_
        refine vv_iast 112 hk he dX12_stage_111 rfl la_141 sd_141 (fun σ7 => ?_)
        refine vv_aload_n (i := 0) 113 hk dX12_stage_112 rfl rfl rfl ?_
        refine vv_getR 116 hk dX12_stage_113 rfl la_86 rfl ci_12 rfl fl_12_177 ?_
        refine vv_iload_n (i := 1) 117 hk dX12_stage_116 rfl rfl rfl ?_
        refine vv_iload 119 hk dX12_stage_117 rfl rfl ?_
        refine vv_iast 120 hk he dX12_stage_119 rfl la_142 sd_142 (fun σ8 => ?_)
        refine vv_iconst 121 hk dX12_stage_120 rfl ic_1 ?_
        exact hret _ _ _ _ dX12_stage_121
      · skip
        refine vv_aload_n (i := 0) 84 hk dX12_stage_83 rfl rfl rfl ?_
        refine vv_iload 86 hk dX12_stage_84 rfl rfl ?_
        refine vv_invI (st := []) 89 hk he dX12_stage_86 rfl ml_12_226 cf_X12_no la_86 ci_12 (c_X12_no G t4 σ) rfl rfl rfl rfl (fun v9 σ10 => ?_)
        exact hret _ _ _ _ dX12_stage_89
    · skip
      refine vv_jn (fun t11 => (σ, 37, [some (rf G 86), some (.int a1), some (.int a2), some (.int a3), some (.int a4), some (.int a5), none], [])) (fun t11 => ?_) (fun k37 hk37 => ?_)
      · skip
        refine vv_bipush 39 hk dX12_stage_37 rfl bp_m4 ?_
        refine vv_goto 76 hk dX12_stage_39 rfl ?_
        exact vv_le (ll_s rfl (ll_s rfl (ll_s rfl (ll_s rfl (ll_s rfl (ll_s rfl (ll_n ll_0))))))) (hk76 (-4 : Int32))
      · skip
        refine vv_if_lt 37 22 hk dX12_stage_19 rfl rfl ?_ ?_
        · skip
          exact vv_le (ll_s rfl (ll_s rfl (ll_s rfl (ll_s rfl (ll_s rfl (ll_s rfl (ll_n ll_0))))))) (hk37 ())
        · skip
          refine vv_iload_n (i := 3) 23 hk dX12_stage_22 rfl rfl rfl ?_
          refine vv_iconst 24 hk dX12_stage_23 rfl ic_1 ?_
          refine vv_icmp_lt 37 27 hk dX12_stage_24 rfl rfl ?_ ?_
          · skip
            exact vv_le (ll_s rfl (ll_s rfl (ll_s rfl (ll_s rfl (ll_s rfl (ll_s rfl (ll_n ll_0))))))) (hk37 ())
          · skip
            refine vv_iload 29 hk dX12_stage_27 rfl rfl ?_
            refine vv_if_lt 37 32 hk dX12_stage_29 rfl rfl ?_ ?_
            · skip
              exact vv_le (ll_s rfl (ll_s rfl (ll_s rfl (ll_s rfl (ll_s rfl (ll_s rfl (ll_n ll_0))))))) (hk37 ())
            · skip
              refine vv_iload 34 hk dX12_stage_32 rfl rfl ?_
              refine vv_if_ge 42 37 hk dX12_stage_34 rfl rfl ?_ ?_
              · skip
                refine vv_iload_n (i := 2) 43 hk dX12_stage_42 rfl rfl rfl ?_
                refine vv_sipush 46 hk dX12_stage_43 rfl sp_299 ?_
                refine vv_jn (fun t12 => (σ, 70, [some (rf G 86), some (.int a1), some (.int a2), some (.int a3), some (.int a4), some (.int a5), none], [])) (fun t12 => ?_) (fun k70 hk70 => ?_)
                · skip
                  refine vv_bipush 72 hk dX12_stage_70 rfl bp_m6 ?_
                  refine vv_goto 76 hk dX12_stage_72 rfl ?_
                  exact vv_le (ll_s rfl (ll_s rfl (ll_s rfl (ll_s rfl (ll_s rfl (ll_s rfl (ll_n ll_0))))))) (hk76 (-6 : Int32))
                · skip
                  refine vv_icmp_gt 70 49 hk dX12_stage_46 rfl rfl ?_ ?_
                  · skip
                    exact vv_le (ll_s rfl (ll_s rfl (ll_s rfl (ll_s rfl (ll_s rfl (ll_s rfl (ll_n ll_0))))))) (hk70 ())
                  · skip
                    refine vv_iload_n (i := 3) 50 hk dX12_stage_49 rfl rfl rfl ?_
                    refine vv_bipush 52 hk dX12_stage_50 rfl bp_99 ?_
                    refine vv_icmp_gt 70 55 hk dX12_stage_52 rfl rfl ?_ ?_
                    · skip
                      exact vv_le (ll_s rfl (ll_s rfl (ll_s rfl (ll_s rfl (ll_s rfl (ll_s rfl (ll_n ll_0))))))) (hk70 ())
                    · skip
                      refine vv_iload 57 hk dX12_stage_55 rfl rfl ?_
                      refine vv_bipush 59 hk dX12_stage_57 rfl bp_99 ?_
                      refine vv_icmp_gt 70 62 hk dX12_stage_59 rfl rfl ?_ ?_
                      · skip
                        exact vv_le (ll_s rfl (ll_s rfl (ll_s rfl (ll_s rfl (ll_s rfl (ll_s rfl (ll_n ll_0))))))) (hk70 ())
                      · skip
                        refine vv_iload 64 hk dX12_stage_62 rfl rfl ?_
                        refine vv_sipush 67 hk dX12_stage_64 rfl sp_9999 ?_
                        refine vv_icmp_le 75 70 hk dX12_stage_67 rfl rfl ?_ ?_
                        · skip
                          refine vv_iconst 76 hk dX12_stage_75 rfl ic_0 ?_
                          exact vv_le (ll_s rfl (ll_s rfl (ll_s rfl (ll_s rfl (ll_s rfl (ll_s rfl (ll_n ll_0))))))) (hk76 (0 : Int32))
                        · skip
                          exact vv_le (ll_s rfl (ll_s rfl (ll_s rfl (ll_s rfl (ll_s rfl (ll_s rfl (ll_n ll_0))))))) (hk70 ())
              · skip
                exact vv_le (ll_s rfl (ll_s rfl (ll_s rfl (ll_s rfl (ll_s rfl (ll_s rfl (ll_n ll_0))))))) (hk37 ())
theorem c_X12_start (G : GT) (a1 : Int32) (a2 : Int32) (σ : Hp) : CtI G false yX12_start cX12_start 3 (some .int) 6 [(rf G 86), (.int a1), (.int a2)] (f_X12_start a1 a2 σ) σ := by
  refine ctI (L0 := [some (rf G 86), some (.int a1), some (.int a2)]) (by decide +kernel) rfl rfl rfl (fun κ hk he hret => ?_)
  have hk : KO G κ cX12_start RX12 6 := hk
  refine vv_aload_n (i := 0) 1 hk dX12_start_0 rfl rfl rfl ?_
  refine vv_iload_n (i := 1) 2 hk dX12_start_1 rfl rfl rfl ?_
  refine vv_invIr (st := []) 5 hk he dX12_start_2 rfl ml_12_295 cf_X12_isPump la_86 ci_12 (c_X12_isPump G a1 σ) rfl rfl rfl rfl (fun v1 => ?_)
  refine vv_if_ne 14 8 hk dX12_start_5 rfl rfl ?_ ?_
  · skip
    refine vv_aload_n (i := 0) 9 hk dX12_start_8 rfl rfl rfl ?_
    refine vv_iconst 10 hk dX12_start_9 rfl ic_m1 ?_
    refine vv_invI (st := []) 13 hk he dX12_start_10 rfl ml_12_226 cf_X12_no la_86 ci_12 (c_X12_no G (-1 : Int32) σ) rfl rfl rfl rfl (fun v2 σ3 => ?_)
    exact hret _ _ _ _ dX12_start_13
  · skip
    refine vv_aload_n (i := 0) 15 hk dX12_start_14 rfl rfl rfl ?_
    refine vv_getR 18 hk dX12_start_15 rfl la_86 rfl ci_12 rfl fl_12_65 ?_
    refine vv_iload_n (i := 1) 19 hk dX12_start_18 rfl rfl rfl ?_
    refine vv_zald 20 hk he dX12_start_19 rfl la_105 sd_105 (fun v4 => ?_)
    refine vv_iload_n (i := 2) 21 hk dX12_start_20 rfl rfl rfl ?_
    refine vv_icmp_ne 26 24 hk dX12_start_21 rfl rfl ?_ ?_
    · skip
      refine vv_iconst 25 hk dX12_start_24 rfl ic_0 ?_
      exact hret _ _ _ _ dX12_start_25
    · skip
      refine vv_iload_n (i := 2) 27 hk dX12_start_26 rfl rfl rfl ?_
      refine vv_jn (fun t5 => (σ, 46, [some (rf G 86), some (.int a1), some (.int a2)], [])) (fun t5 => ?_) (fun k46 hk46 => ?_)
      · skip
        refine vv_iload_n (i := 2) 47 hk dX12_start_46 rfl rfl rfl ?_
        refine vv_jn (fun t6 => (t6, 66, [some (rf G 86), some (.int a1), some (.int a2)], [])) (fun t6 => ?_) (fun k66 hk66 => ?_)
        · skip
          refine vv_aload_n (i := 0) 67 hk dX12_start_66 rfl rfl rfl ?_
          refine vv_iconst 68 hk dX12_start_67 rfl ic_1 ?_
          refine vv_iload_n (i := 1) 69 hk dX12_start_68 rfl rfl rfl ?_
          refine vv_iload_n (i := 2) 70 hk dX12_start_69 rfl rfl rfl ?_
          refine vv_jn (fun t7 => (t6, 78, [some (rf G 86), none, none], [(.int t7), (.int a1), (.int (1 : Int32)), (rf G 86)])) (fun t7 => ?_) (fun k78 hk78 => ?_)
          · skip
            refine vv_invI (st := []) 81 hk he dX12_start_78 rfl ml_12_388 cf_X12_acts la_86 ci_12 (c_X12_acts G (1 : Int32) a1 t7 t6) rfl rfl rfl rfl (fun v8 σ9 => ?_)
            exact hret _ _ _ _ dX12_start_81
          · skip
            refine vv_if_eq 77 73 hk dX12_start_70 rfl rfl ?_ ?_
            · skip
              refine vv_iconst 78 hk dX12_start_77 rfl ic_0 ?_
              exact vv_le (ll_s rfl (ll_n (ll_n ll_0))) (hk78 (0 : Int32))
            · skip
              refine vv_iconst 74 hk dX12_start_73 rfl ic_1 ?_
              refine vv_goto 78 hk dX12_start_74 rfl ?_
              exact vv_le (ll_s rfl (ll_n (ll_n ll_0))) (hk78 (1 : Int32))
        · skip
          refine vv_if_eq 66 50 hk dX12_start_47 rfl rfl ?_ ?_
          · skip
            exact vv_le (ll_s rfl (ll_s rfl (ll_s rfl ll_0))) (hk66 σ)
          · skip
            refine vv_aload_n (i := 0) 51 hk dX12_start_50 rfl rfl rfl ?_
            refine vv_iload_n (i := 1) 52 hk dX12_start_51 rfl rfl rfl ?_
            refine vv_iconst 53 hk dX12_start_52 rfl ic_1 ?_
            refine vv_invI (st := []) 56 hk he dX12_start_53 rfl ml_12_372 cf_X12_forbidden la_86 ci_12 (c_X12_forbidden G a1 (1 : Int32) σ) rfl rfl rfl rfl (fun v10 σ11 => ?_)
            refine vv_if_lt 66 59 hk dX12_start_56 rfl rfl ?_ ?_
            · skip
              exact vv_le (ll_s rfl (ll_s rfl (ll_s rfl ll_0))) (hk66 σ11)
            · skip
              refine vv_aload_n (i := 0) 60 hk dX12_start_59 rfl rfl rfl ?_
              refine vv_bipush 62 hk dX12_start_60 rfl bp_m7 ?_
              refine vv_invI (st := []) 65 hk he dX12_start_62 rfl ml_12_226 cf_X12_no la_86 ci_12 (c_X12_no G (-7 : Int32) σ11) rfl rfl rfl rfl (fun v12 σ13 => ?_)
              exact hret _ _ _ _ dX12_start_65
      · skip
        refine vv_if_eq 46 30 hk dX12_start_27 rfl rfl ?_ ?_
        · skip
          exact vv_le (ll_s rfl (ll_s rfl (ll_s rfl ll_0))) (hk46 ())
        · skip
          refine vv_aload_n (i := 0) 31 hk dX12_start_30 rfl rfl rfl ?_
          refine vv_getR 34 hk dX12_start_31 rfl la_86 rfl ci_12 rfl fl_12_68 ?_
          refine vv_iload_n (i := 1) 35 hk dX12_start_34 rfl rfl rfl ?_
          refine vv_zald 36 hk he dX12_start_35 rfl la_106 sd_106 (fun v14 => ?_)
          refine vv_if_eq 46 39 hk dX12_start_36 rfl rfl ?_ ?_
          · skip
            exact vv_le (ll_s rfl (ll_s rfl (ll_s rfl ll_0))) (hk46 ())
          · skip
            refine vv_aload_n (i := 0) 40 hk dX12_start_39 rfl rfl rfl ?_
            refine vv_bipush 42 hk dX12_start_40 rfl bp_m3 ?_
            refine vv_invI (st := []) 45 hk he dX12_start_42 rfl ml_12_226 cf_X12_no la_86 ci_12 (c_X12_no G (-3 : Int32) σ) rfl rfl rfl rfl (fun v15 σ16 => ?_)
            exact hret _ _ _ _ dX12_start_45
theorem c_X12_ticks (G : GT) (a1 : Int32) (σ : Hp) : CtI G false yX12_ticks cX12_ticks 4 (some .int) 3 [(rf G 86), (.int a1)] (f_X12_ticks a1 σ) σ := by
  refine ctI (L0 := [some (rf G 86), some (.int a1), none, none]) (by decide +kernel) rfl rfl rfl (fun κ hk he hret => ?_)
  have hk : KO G κ cX12_ticks RX12 3 := hk
  refine vv_iload_n (i := 1) 1 hk dX12_ticks_0 rfl rfl rfl ?_
  refine vv_iconst 2 hk dX12_ticks_1 rfl ic_1 ?_
  refine vv_jn (fun t1 => (σ, 35, [some (rf G 86), some (.int a1), none, none], [(.int t1)])) (fun t1 => ?_) (fun k35 hk35 => ?_)
  · skip
    refine vv_istore_n (i := 2) 36 [some (rf G 86), some (.int a1), some (.int t1), none] hk dX12_ticks_35 rfl rfl rfl rfl ?_
    refine vv_iload_n (i := 2) 37 hk dX12_ticks_36 rfl rfl rfl ?_
    refine vv_if_eq 46 40 hk dX12_ticks_37 rfl rfl ?_ ?_
    · skip
      refine vv_aload_n (i := 0) 47 hk dX12_ticks_46 rfl rfl rfl ?_
      refine vv_invV (st := []) 50 hk he dX12_ticks_47 rfl ml_12_235 cf_X12_forgets la_86 ci_12 (c_X12_forgets G σ) rfl rfl rfl rfl (fun σ2 => ?_)
      refine vv_iconst 51 hk dX12_ticks_50 rfl ic_0 ?_
      refine vv_istore_n (i := 3) 52 [some (rf G 86), some (.int a1), some (.int t1), some (.int (0 : Int32))] hk dX12_ticks_51 rfl rfl rfl rfl ?_
      refine vv_le (L' := [some (rf G 86), some (.int a1), none, some (.int (0 : Int32))]) (ll_s rfl (ll_s rfl (ll_n (ll_s rfl ll_0)))) ?_
      refine vv_lp (fun t3 => (t3.2, 52, [some (rf G 86), some (.int a1), none, some (.int t3.1)], [])) (fun kl52 hkl52 t3 => ?_) FU ((0 : Int32), σ2)
      refine vv_iload_n (i := 3) 53 hk dX12_ticks_52 rfl rfl rfl ?_
      refine vv_iload_n (i := 1) 54 hk dX12_ticks_53 rfl rfl rfl ?_
      refine vv_icmp_ge 67 57 hk dX12_ticks_54 rfl rfl ?_ ?_
      · skip
        refine vv_aload_n (i := 0) 68 hk dX12_ticks_67 rfl rfl rfl ?_
        refine vv_getI 71 hk he dX12_ticks_68 rfl la_86 rfl ci_12 rfl fl_12_280 sd_86 ?_
        exact hret _ _ _ _ dX12_ticks_71
      · skip
        refine vv_aload_n (i := 0) 58 hk dX12_ticks_57 rfl rfl rfl ?_
        refine vv_invV (st := []) 61 hk he dX12_ticks_58 rfl ml_12_283 cf_X12_passes la_86 ci_12 (c_X12_passes G t3.2) rfl rfl rfl rfl (fun σ4 => ?_)
        refine vv_iinc 64 (fun x5 => [some (rf G 86), some (.int a1), none, some (.int x5)]) hk dX12_ticks_61 rfl rfl ic_1 (fun _ => rfl) (fun x5 => ?_)
        refine vv_goto 52 hk dX12_ticks_64 rfl ?_
        exact vv_le (ll_s rfl (ll_s rfl (ll_n (ll_s rfl ll_0)))) (hkl52 (x5, σ4))
    · skip
      refine vv_aload_n (i := 0) 41 hk dX12_ticks_40 rfl rfl rfl ?_
      refine vv_iload_n (i := 2) 42 hk dX12_ticks_41 rfl rfl rfl ?_
      refine vv_invI (st := []) 45 hk he dX12_ticks_42 rfl ml_12_226 cf_X12_no la_86 ci_12 (c_X12_no G t1 σ) rfl rfl rfl rfl (fun v6 σ7 => ?_)
      exact hret _ _ _ _ dX12_ticks_45
  · skip
    refine vv_icmp_ge 10 5 hk dX12_ticks_2 rfl rfl ?_ ?_
    · skip
      refine vv_iload_n (i := 1) 11 hk dX12_ticks_10 rfl rfl rfl ?_
      refine vv_sipush 14 hk dX12_ticks_11 rfl sp_200 ?_
      refine vv_jn (fun t8 => (σ, 29, [some (rf G 86), some (.int a1), none, none], [])) (fun t8 => ?_) (fun k29 hk29 => ?_)
      · skip
        refine vv_bipush 31 hk dX12_ticks_29 rfl bp_m6 ?_
        refine vv_goto 35 hk dX12_ticks_31 rfl ?_
        exact vv_le (ll_s rfl (ll_s rfl (ll_n (ll_n ll_0)))) (hk35 (-6 : Int32))
      · skip
        refine vv_icmp_gt 29 17 hk dX12_ticks_14 rfl rfl ?_ ?_
        · skip
          exact vv_le (ll_s rfl (ll_s rfl (ll_n (ll_n ll_0)))) (hk29 ())
        · skip
          refine vv_aload_n (i := 0) 18 hk dX12_ticks_17 rfl rfl rfl ?_
          refine vv_getI 21 hk he dX12_ticks_18 rfl la_86 rfl ci_12 rfl fl_12_280 sd_86 ?_
          refine vv_iload_n (i := 1) 22 hk dX12_ticks_21 rfl rfl rfl ?_
          refine vv_iadd 23 hk dX12_ticks_22 rfl ?_
          refine vv_sipush 26 hk dX12_ticks_23 rfl sp_5000 ?_
          refine vv_icmp_le 34 29 hk dX12_ticks_26 rfl rfl ?_ ?_
          · skip
            refine vv_iconst 35 hk dX12_ticks_34 rfl ic_0 ?_
            exact vv_le (ll_s rfl (ll_s rfl (ll_n (ll_n ll_0)))) (hk35 (0 : Int32))
          · skip
            exact vv_le (ll_s rfl (ll_s rfl (ll_n (ll_n ll_0)))) (hk29 ())
    · skip
      refine vv_bipush 7 hk dX12_ticks_5 rfl bp_m4 ?_
      refine vv_goto 35 hk dX12_ticks_7 rfl ?_
      exact vv_le (ll_s rfl (ll_s rfl (ll_n (ll_n ll_0)))) (hk35 (-4 : Int32))
theorem c_X12_trueGas (G : GT) (a1 : Int32) (a2 : Int32) (σ : Hp) : CtI G false yX12_trueGas cX12_trueGas 13 (some .int) 2 [(rf G 86), (.int a1), (.int a2)] (f_X12_trueGas a1 a2 σ) σ := by
  refine ctI (L0 := [some (rf G 86), some (.int a1), some (.int a2), none, none, none, none, none, none, none, none, none, none]) (by decide +kernel) rfl rfl rfl (fun κ hk he hret => ?_)
  have hk : KO G κ cX12_trueGas RX12 2 := hk
  refine vv_iload_n (i := 2) 1 hk dX12_trueGas_0 rfl rfl rfl ?_
  refine vv_i2l 2 hk dX12_trueGas_1 rfl ?_
  refine vv_lconst 3 hk dX12_trueGas_2 rfl lc_0 ?_
  refine vv_ldc2 6 hk dX12_trueGas_3 rfl cw_12_430 ?_
  refine vv_staIr (st := []) 9 hk he dX12_trueGas_6 rfl ml_12_222 sf_X12_isIn (c_X12_isIn G a2.toInt64 (0 : Int64) (7 : Int64) σ) rfl rfl rfl rfl (fun v1 => ?_)
  refine vv_if_ne 19 12 hk dX12_trueGas_9 rfl rfl ?_ ?_
  · skip
    refine vv_aload_n (i := 0) 13 hk dX12_trueGas_12 rfl rfl rfl ?_
    refine vv_bipush 15 hk dX12_trueGas_13 rfl bp_m2 ?_
    refine vv_invI (st := []) 18 hk he dX12_trueGas_15 rfl ml_12_226 cf_X12_no la_86 ci_12 (c_X12_no G (-2 : Int32) σ) rfl rfl rfl rfl (fun v2 σ3 => ?_)
    exact hret _ _ _ _ dX12_trueGas_18
  · skip
    refine vv_iload_n (i := 1) 20 hk dX12_trueGas_19 rfl rfl rfl ?_
    refine vv_i2l 21 hk dX12_trueGas_20 rfl ?_
    refine vv_lconst 22 hk dX12_trueGas_21 rfl lc_0 ?_
    refine vv_ldc2 25 hk dX12_trueGas_22 rfl cw_12_242 ?_
    refine vv_staIr (st := []) 28 hk he dX12_trueGas_25 rfl ml_12_232 sf_X12_out (c_X12_out G a1.toInt64 (0 : Int64) (9 : Int64) σ) rfl rfl rfl rfl (fun v4 => ?_)
    refine vv_istore_n (i := 3) 29 [some (rf G 86), some (.int a1), some (.int a2), some (.int v4), none, none, none, none, none, none, none, none, none] hk dX12_trueGas_28 rfl rfl rfl rfl ?_
    refine vv_iload_n (i := 3) 30 hk dX12_trueGas_29 rfl rfl rfl ?_
    refine vv_if_eq 39 33 hk dX12_trueGas_30 rfl rfl ?_ ?_
    · skip
      refine vv_iload_n (i := 2) 40 hk dX12_trueGas_39 rfl rfl rfl ?_
      refine vv_bipush 42 hk dX12_trueGas_40 rfl bp_7 ?_
      refine vv_icmp_ne 50 45 hk dX12_trueGas_42 rfl rfl ?_ ?_
      · skip
        refine vv_aload_n (i := 0) 46 hk dX12_trueGas_45 rfl rfl rfl ?_
        refine vv_invIr (st := []) 49 hk he dX12_trueGas_46 rfl ml_12_432 cf_X12_hidden la_86 ci_12 (c_X12_hidden G σ) rfl rfl rfl rfl (fun v5 => ?_)
        exact hret _ _ _ _ dX12_trueGas_49
      · skip
        refine vv_iconst 51 hk dX12_trueGas_50 rfl ic_0 ?_
        refine vv_istore 53 [some (rf G 86), some (.int a1), some (.int a2), some (.int v4), some (.int (0 : Int32)), none, none, none, none, none, none, none, none] hk dX12_trueGas_51 rfl rfl rfl ?_
        refine vv_bipush 55 hk dX12_trueGas_53 rfl bp_m9 ?_
        refine vv_istore 57 [some (rf G 86), some (.int a1), some (.int a2), some (.int v4), some (.int (0 : Int32)), some (.int (-9 : Int32)), none, none, none, none, none, none, none] hk dX12_trueGas_55 rfl rfl rfl ?_
        refine vv_bipush 59 hk dX12_trueGas_57 rfl bp_m9 ?_
        refine vv_istore 61 [some (rf G 86), some (.int a1), some (.int a2), some (.int v4), some (.int (0 : Int32)), some (.int (-9 : Int32)), some (.int (-9 : Int32)), none, none, none, none, none, none] hk dX12_trueGas_59 rfl rfl rfl ?_
        refine vv_iconst 62 hk dX12_trueGas_61 rfl ic_0 ?_
        refine vv_istore 64 [some (rf G 86), some (.int a1), some (.int a2), some (.int v4), some (.int (0 : Int32)), some (.int (-9 : Int32)), some (.int (-9 : Int32)), some (.int (0 : Int32)), none, none, none, none, none] hk dX12_trueGas_62 rfl rfl rfl ?_
        refine vv_jn (fun t6 => (σ, 260, [some (rf G 86), none, some (.int a2), none, some (.int t6.1), some (.int t6.2.1), some (.int t6.2.2), none, none, none, none, none, none], [])) (fun t6 => ?_) (fun k260 hk260 => ?_)
        · skip
          refine vv_iload_n (i := 2) 261 hk dX12_trueGas_260 rfl rfl rfl ?_
          refine vv_jn (fun t7 => (σ, 281, [some (rf G 86), none, none, none, none, none, none, none, none, none, none, none, none], [(.int t7)])) (fun t7 => ?_) (fun k281 hk281 => ?_)
          · skip
            exact hret _ _ _ _ dX12_trueGas_281
          · skip
            refine vv_if_ne 269 264 hk dX12_trueGas_261 rfl rfl ?_ ?_
            · skip
              refine vv_iload 266 hk dX12_trueGas_264 rfl rfl ?_
              refine vv_goto 281 hk dX12_trueGas_266 rfl ?_
              exact vv_le (ll_s rfl (ll_n (ll_n (ll_n (ll_n (ll_n (ll_n (ll_n (ll_n (ll_n (ll_n (ll_n (ll_n ll_0))))))))))))) (hk281 t6.1)
            · skip
              refine vv_iload_n (i := 2) 270 hk dX12_trueGas_269 rfl rfl rfl ?_
              refine vv_iconst 271 hk dX12_trueGas_270 rfl ic_4 ?_
              refine vv_icmp_ge 279 274 hk dX12_trueGas_271 rfl rfl ?_ ?_
              · skip
                refine vv_iload 281 hk dX12_trueGas_279 rfl rfl ?_
                exact vv_le (ll_s rfl (ll_n (ll_n (ll_n (ll_n (ll_n (ll_n (ll_n (ll_n (ll_n (ll_n (ll_n (ll_n ll_0))))))))))))) (hk281 t6.2.2)
              · skip
                refine vv_iload 276 hk dX12_trueGas_274 rfl rfl ?_
                refine vv_goto 281 hk dX12_trueGas_276 rfl ?_
                exact vv_le (ll_s rfl (ll_n (ll_n (ll_n (ll_n (ll_n (ll_n (ll_n (ll_n (ll_n (ll_n (ll_n (ll_n ll_0))))))))))))) (hk281 t6.2.1)
        · skip
          refine vv_le (L' := [some (rf G 86), some (.int a1), some (.int a2), none, some (.int (0 : Int32)), some (.int (-9 : Int32)), some (.int (-9 : Int32)), some (.int (0 : Int32)), none, none, none, none, none]) (ll_s rfl (ll_s rfl (ll_s rfl (ll_n (ll_s rfl (ll_s rfl (ll_s rfl (ll_s rfl (ll_n (ll_n (ll_n (ll_n (ll_n ll_0))))))))))))) ?_
          refine vv_lp (fun t8 => (σ, 64, [some (rf G 86), some (.int a1), some (.int a2), none, some (.int t8.1), some (.int t8.2.1), some (.int t8.2.2.1), some (.int t8.2.2.2), none, none, none, none, none], [])) (fun kl64 hkl64 t8 => ?_) FU ((0 : Int32), (-9 : Int32), (-9 : Int32), (0 : Int32))
          refine vv_iload 66 hk dX12_trueGas_64 rfl rfl ?_
          refine vv_ldcw 69 hk dX12_trueGas_66 rfl cw_12_435 ?_
          refine vv_icmp_ge 260 72 hk dX12_trueGas_69 rfl rfl ?_ ?_
          · skip
            exact vv_le (ll_s rfl (ll_n (ll_s rfl (ll_n (ll_s rfl (ll_s rfl (ll_s rfl (ll_n (ll_n (ll_n (ll_n (ll_n (ll_n ll_0))))))))))))) (hk260 (t8.1, t8.2.1, t8.2.2.1))
          · skip
            refine vv_iload 74 hk dX12_trueGas_72 rfl rfl ?_
            refine vv_sipush 77 hk dX12_trueGas_74 rfl sp_1681 ?_
            refine vv_idiv 78 hk dX12_trueGas_77 rfl ?_
            refine vv_istoreL 80 (fun x9 => [some (rf G 86), some (.int a1), some (.int a2), none, some (.int t8.1), some (.int t8.2.1), some (.int t8.2.2.1), some (.int t8.2.2.2), some (.int x9), none, none, none, none]) hk dX12_trueGas_78 rfl rfl (fun _ => rfl) (fun x9 => ?_)
            refine vv_iload 82 hk dX12_trueGas_80 rfl rfl ?_
            refine vv_bipush 84 hk dX12_trueGas_82 rfl bp_41 ?_
            refine vv_idiv 85 hk dX12_trueGas_84 rfl ?_
            refine vv_bipush 87 hk dX12_trueGas_85 rfl bp_41 ?_
            refine vv_irem 88 hk dX12_trueGas_87 rfl ?_
            refine vv_istoreL 90 (fun x10 => [some (rf G 86), some (.int a1), some (.int a2), none, some (.int t8.1), some (.int t8.2.1), some (.int t8.2.2.1), some (.int t8.2.2.2), some (.int x9), some (.int x10), none, none, none]) hk dX12_trueGas_88 rfl rfl (fun _ => rfl) (fun x10 => ?_)
            refine vv_iload 92 hk dX12_trueGas_90 rfl rfl ?_
            refine vv_bipush 94 hk dX12_trueGas_92 rfl bp_41 ?_
            refine vv_irem 95 hk dX12_trueGas_94 rfl ?_
            refine vv_istoreL 97 (fun x11 => [some (rf G 86), some (.int a1), some (.int a2), none, some (.int t8.1), some (.int t8.2.1), some (.int t8.2.2.1), some (.int t8.2.2.2), some (.int x9), some (.int x10), some (.int x11), none, none]) hk dX12_trueGas_95 rfl rfl (fun _ => rfl) (fun x11 => ?_)
            refine vv_iconst 98 hk dX12_trueGas_97 rfl ic_1 ?_
            refine vv_istore 100 [some (rf G 86), some (.int a1), some (.int a2), none, some (.int t8.1), some (.int t8.2.1), some (.int t8.2.2.1), some (.int t8.2.2.2), some (.int x9), some (.int x10), some (.int x11), some (.int (1 : Int32)), none] hk dX12_trueGas_98 rfl rfl rfl ?_
            refine vv_iconst 101 hk dX12_trueGas_100 rfl ic_0 ?_
            refine vv_istore 103 [some (rf G 86), some (.int a1), some (.int a2), none, some (.int t8.1), some (.int t8.2.1), some (.int t8.2.2.1), some (.int t8.2.2.2), some (.int x9), some (.int x10), some (.int x11), some (.int (1 : Int32)), some (.int (0 : Int32))] hk dX12_trueGas_101 rfl rfl rfl ?_
            refine vv_jn (fun t12 => (σ, 172, [some (rf G 86), some (.int a1), some (.int a2), none, some (.int t8.1), some (.int t8.2.1), some (.int t8.2.2.1), some (.int t8.2.2.2), some (.int x9), some (.int x10), some (.int x11), some (.int t12), none], [])) (fun t12 => ?_) (fun k172 hk172 => ?_)
            · skip
              refine vv_iload 174 hk dX12_trueGas_172 rfl rfl ?_
              refine vv_jn (fun t13 => (σ, 254, [some (rf G 86), some (.int a1), some (.int a2), none, some (.int t13.1), some (.int t13.2.1), some (.int t13.2.2), some (.int t8.2.2.2), none, none, none, none, none], [])) (fun t13 => ?_) (fun k254 hk254 => ?_)
              · skip
                refine vv_iinc 257 (fun x14 => [some (rf G 86), some (.int a1), some (.int a2), none, some (.int t13.1), some (.int t13.2.1), some (.int t13.2.2), some (.int x14), none, none, none, none, none]) hk dX12_trueGas_254 rfl rfl ic_1 (fun _ => rfl) (fun x14 => ?_)
                refine vv_goto 64 hk dX12_trueGas_257 rfl ?_
                exact vv_le (ll_s rfl (ll_s rfl (ll_s rfl (ll_n (ll_s rfl (ll_s rfl (ll_s rfl (ll_s rfl (ll_n (ll_n (ll_n (ll_n (ll_n ll_0))))))))))))) (hkl64 (t13.1, t13.2.1, t13.2.2, x14))
              · skip
                refine vv_if_ne 180 177 hk dX12_trueGas_174 rfl rfl ?_ ?_
                · skip
                  refine vv_goto 254 hk dX12_trueGas_177 rfl ?_
                  exact vv_le (ll_s rfl (ll_s rfl (ll_s rfl (ll_n (ll_s rfl (ll_s rfl (ll_s rfl (ll_s rfl (ll_n (ll_n (ll_n (ll_n (ll_n ll_0))))))))))))) (hk254 (t8.1, t8.2.1, t8.2.2.1))
                · skip
                  refine vv_iload_n (i := 2) 181 hk dX12_trueGas_180 rfl rfl rfl ?_
                  refine vv_iconst 182 hk dX12_trueGas_181 rfl ic_1 ?_
                  refine vv_jn (fun t15 => (σ, 212, [some (rf G 86), some (.int a1), some (.int a2), none, some (.int t8.1), some (.int t8.2.1), some (.int t8.2.2.1), some (.int t8.2.2.2), none, none, none, none, none], [(.int t15)])) (fun t15 => ?_) (fun k212 hk212 => ?_)
                  · skip
                    refine vv_istore 214 [some (rf G 86), some (.int a1), some (.int a2), none, some (.int t8.1), some (.int t8.2.1), some (.int t8.2.2.1), some (.int t8.2.2.2), none, none, none, none, some (.int t15)] hk dX12_trueGas_212 rfl rfl rfl ?_
                    refine vv_iload 216 hk dX12_trueGas_214 rfl rfl ?_
                    refine vv_jn (fun t16 => (σ, 233, [some (rf G 86), some (.int a1), some (.int a2), none, some (.int t8.1), none, some (.int t8.2.2.1), some (.int t8.2.2.2), none, none, none, none, some (.int t15)], [(.int t16)])) (fun t16 => ?_) (fun k233 hk233 => ?_)
                    · skip
                      refine vv_istore 235 [some (rf G 86), some (.int a1), some (.int a2), none, some (.int t8.1), some (.int t16), some (.int t8.2.2.1), some (.int t8.2.2.2), none, none, none, none, some (.int t15)] hk dX12_trueGas_233 rfl rfl rfl ?_
                      refine vv_iload 237 hk dX12_trueGas_235 rfl rfl ?_
                      refine vv_iload 239 hk dX12_trueGas_237 rfl rfl ?_
                      refine vv_jn (fun t17 => (σ, 249, [some (rf G 86), some (.int a1), some (.int a2), none, some (.int t8.1), some (.int t16), none, some (.int t8.2.2.2), none, none, none, none, none], [(.int t17)])) (fun t17 => ?_) (fun k249 hk249 => ?_)
                      · skip
                        refine vv_istore 251 [some (rf G 86), some (.int a1), some (.int a2), none, some (.int t8.1), some (.int t16), some (.int t17), some (.int t8.2.2.2), none, none, none, none, none] hk dX12_trueGas_249 rfl rfl rfl ?_
                        refine vv_iinc 254 (fun x18 => [some (rf G 86), some (.int a1), some (.int a2), none, some (.int x18), some (.int t16), some (.int t17), some (.int t8.2.2.2), none, none, none, none, none]) hk dX12_trueGas_251 rfl rfl ic_1 (fun _ => rfl) (fun x18 => ?_)
                        exact vv_le (ll_s rfl (ll_s rfl (ll_s rfl (ll_n (ll_s rfl (ll_s rfl (ll_s rfl (ll_s rfl (ll_n (ll_n (ll_n (ll_n (ll_n ll_0))))))))))))) (hk254 (x18, t16, t17))
                      · skip
                        refine vv_icmp_le 247 242 hk dX12_trueGas_239 rfl rfl ?_ ?_
                        · skip
                          refine vv_iload 249 hk dX12_trueGas_247 rfl rfl ?_
                          exact vv_le (ll_s rfl (ll_s rfl (ll_s rfl (ll_n (ll_s rfl (ll_s rfl (ll_n (ll_s rfl (ll_n (ll_n (ll_n (ll_n (ll_n ll_0))))))))))))) (hk249 t8.2.2.1)
                        · skip
                          refine vv_iload 244 hk dX12_trueGas_242 rfl rfl ?_
                          refine vv_goto 249 hk dX12_trueGas_244 rfl ?_
                          exact vv_le (ll_s rfl (ll_s rfl (ll_s rfl (ll_n (ll_s rfl (ll_s rfl (ll_n (ll_s rfl (ll_n (ll_n (ll_n (ll_n (ll_n ll_0))))))))))))) (hk249 t15)
                    · skip
                      refine vv_jn (fun t19 => (σ, 226, [some (rf G 86), some (.int a1), some (.int a2), none, some (.int t8.1), none, some (.int t8.2.2.1), some (.int t8.2.2.2), none, none, none, none, some (.int t15)], [])) (fun t19 => ?_) (fun k226 hk226 => ?_)
                      · skip
                        refine vv_iload 228 hk dX12_trueGas_226 rfl rfl ?_
                        refine vv_goto 233 hk dX12_trueGas_228 rfl ?_
                        exact vv_le (ll_s rfl (ll_s rfl (ll_s rfl (ll_n (ll_s rfl (ll_n (ll_s rfl (ll_s rfl (ll_n (ll_n (ll_n (ll_n (ll_s rfl ll_0))))))))))))) (hk233 t15)
                      · skip
                        refine vv_if_eq 226 219 hk dX12_trueGas_216 rfl rfl ?_ ?_
                        · skip
                          exact vv_le (ll_s rfl (ll_s rfl (ll_s rfl (ll_n (ll_s rfl (ll_n (ll_s rfl (ll_s rfl (ll_n (ll_n (ll_n (ll_n (ll_s rfl ll_0))))))))))))) (hk226 ())
                        · skip
                          refine vv_iload 221 hk dX12_trueGas_219 rfl rfl ?_
                          refine vv_iload 223 hk dX12_trueGas_221 rfl rfl ?_
                          refine vv_icmp_ge 231 226 hk dX12_trueGas_223 rfl rfl ?_ ?_
                          · skip
                            refine vv_iload 233 hk dX12_trueGas_231 rfl rfl ?_
                            exact vv_le (ll_s rfl (ll_s rfl (ll_s rfl (ll_n (ll_s rfl (ll_n (ll_s rfl (ll_s rfl (ll_n (ll_n (ll_n (ll_n (ll_s rfl ll_0))))))))))))) (hk233 t8.2.1)
                          · skip
                            exact vv_le (ll_s rfl (ll_s rfl (ll_s rfl (ll_n (ll_s rfl (ll_n (ll_s rfl (ll_s rfl (ll_n (ll_n (ll_n (ll_n (ll_s rfl ll_0))))))))))))) (hk226 ())
                  · skip
                    refine vv_jn (fun t20 => (σ, 190, [some (rf G 86), some (.int a1), some (.int a2), none, some (.int t8.1), some (.int t8.2.1), some (.int t8.2.2.1), some (.int t8.2.2.2), some (.int x9), none, none, none, none], [])) (fun t20 => ?_) (fun k190 hk190 => ?_)
                    · skip
                      refine vv_iload 192 hk dX12_trueGas_190 rfl rfl ?_
                      refine vv_goto 212 hk dX12_trueGas_192 rfl ?_
                      exact vv_le (ll_s rfl (ll_s rfl (ll_s rfl (ll_n (ll_s rfl (ll_s rfl (ll_s rfl (ll_s rfl (ll_n (ll_n (ll_n (ll_n (ll_n ll_0))))))))))))) (hk212 x9)
                    · skip
                      refine vv_icmp_eq 190 185 hk dX12_trueGas_182 rfl rfl ?_ ?_
                      · skip
                        exact vv_le (ll_s rfl (ll_s rfl (ll_s rfl (ll_n (ll_s rfl (ll_s rfl (ll_s rfl (ll_s rfl (ll_s rfl (ll_n (ll_n (ll_n (ll_n ll_0))))))))))))) (hk190 ())
                      · skip
                        refine vv_iload_n (i := 2) 186 hk dX12_trueGas_185 rfl rfl rfl ?_
                        refine vv_iconst 187 hk dX12_trueGas_186 rfl ic_4 ?_
                        refine vv_icmp_ne 195 190 hk dX12_trueGas_187 rfl rfl ?_ ?_
                        · skip
                          exact vv_le (ll_s rfl (ll_s rfl (ll_s rfl (ll_n (ll_s rfl (ll_s rfl (ll_s rfl (ll_s rfl (ll_s rfl (ll_n (ll_n (ll_n (ll_n ll_0))))))))))))) (hk190 ())
                        · skip
                          refine vv_iload_n (i := 2) 196 hk dX12_trueGas_195 rfl rfl rfl ?_
                          refine vv_iconst 197 hk dX12_trueGas_196 rfl ic_2 ?_
                          refine vv_jn (fun t21 => (σ, 205, [some (rf G 86), some (.int a1), some (.int a2), none, some (.int t8.1), some (.int t8.2.1), some (.int t8.2.2.1), some (.int t8.2.2.2), none, some (.int x10), none, none, none], [])) (fun t21 => ?_) (fun k205 hk205 => ?_)
                          · skip
                            refine vv_iload 207 hk dX12_trueGas_205 rfl rfl ?_
                            refine vv_goto 212 hk dX12_trueGas_207 rfl ?_
                            exact vv_le (ll_s rfl (ll_s rfl (ll_s rfl (ll_n (ll_s rfl (ll_s rfl (ll_s rfl (ll_s rfl (ll_n (ll_n (ll_n (ll_n (ll_n ll_0))))))))))))) (hk212 x10)
                          · skip
                            refine vv_icmp_eq 205 200 hk dX12_trueGas_197 rfl rfl ?_ ?_
                            · skip
                              exact vv_le (ll_s rfl (ll_s rfl (ll_s rfl (ll_n (ll_s rfl (ll_s rfl (ll_s rfl (ll_s rfl (ll_n (ll_s rfl (ll_n (ll_n (ll_n ll_0))))))))))))) (hk205 ())
                            · skip
                              refine vv_iload_n (i := 2) 201 hk dX12_trueGas_200 rfl rfl rfl ?_
                              refine vv_iconst 202 hk dX12_trueGas_201 rfl ic_5 ?_
                              refine vv_icmp_ne 210 205 hk dX12_trueGas_202 rfl rfl ?_ ?_
                              · skip
                                exact vv_le (ll_s rfl (ll_s rfl (ll_s rfl (ll_n (ll_s rfl (ll_s rfl (ll_s rfl (ll_s rfl (ll_n (ll_s rfl (ll_n (ll_n (ll_n ll_0))))))))))))) (hk205 ())
                              · skip
                                refine vv_iload 212 hk dX12_trueGas_210 rfl rfl ?_
                                exact vv_le (ll_s rfl (ll_s rfl (ll_s rfl (ll_n (ll_s rfl (ll_s rfl (ll_s rfl (ll_s rfl (ll_n (ll_n (ll_n (ll_n (ll_n ll_0))))))))))))) (hk212 x11)
            · skip
              refine vv_lp (fun t22 => (σ, 103, [some (rf G 86), some (.int a1), some (.int a2), none, some (.int t8.1), some (.int t8.2.1), some (.int t8.2.2.1), some (.int t8.2.2.2), some (.int x9), some (.int x10), some (.int x11), some (.int t22.1), some (.int t22.2)], [])) (fun kl103 hkl103 t22 => ?_) FU ((1 : Int32), (0 : Int32))
              refine vv_iload 105 hk dX12_trueGas_103 rfl rfl ?_
              refine vv_iconst 106 hk dX12_trueGas_105 rfl ic_3 ?_
              refine vv_icmp_ge 172 109 hk dX12_trueGas_106 rfl rfl ?_ ?_
              · skip
                exact vv_le (ll_s rfl (ll_s rfl (ll_s rfl (ll_n (ll_s rfl (ll_s rfl (ll_s rfl (ll_s rfl (ll_s rfl (ll_s rfl (ll_s rfl (ll_s rfl (ll_n ll_0))))))))))))) (hk172 t22.1)
              · skip
                refine vv_iload 111 hk dX12_trueGas_109 rfl rfl ?_
                refine vv_jn (fun t23 => (σ, 164, [some (rf G 86), some (.int a1), some (.int a2), none, some (.int t8.1), some (.int t8.2.1), some (.int t8.2.2.1), some (.int t8.2.2.2), some (.int x9), some (.int x10), some (.int x11), none, some (.int t22.2)], [(.int t23)])) (fun t23 => ?_) (fun k164 hk164 => ?_)
                · skip
                  refine vv_istore 166 [some (rf G 86), some (.int a1), some (.int a2), none, some (.int t8.1), some (.int t8.2.1), some (.int t8.2.2.1), some (.int t8.2.2.2), some (.int x9), some (.int x10), some (.int x11), some (.int t23), some (.int t22.2)] hk dX12_trueGas_164 rfl rfl rfl ?_
                  refine vv_iinc 169 (fun x24 => [some (rf G 86), some (.int a1), some (.int a2), none, some (.int t8.1), some (.int t8.2.1), some (.int t8.2.2.1), some (.int t8.2.2.2), some (.int x9), some (.int x10), some (.int x11), some (.int t23), some (.int x24)]) hk dX12_trueGas_166 rfl rfl ic_1 (fun _ => rfl) (fun x24 => ?_)
                  refine vv_goto 103 hk dX12_trueGas_169 rfl ?_
                  exact vv_le (ll_s rfl (ll_s rfl (ll_s rfl (ll_n (ll_s rfl (ll_s rfl (ll_s rfl (ll_s rfl (ll_s rfl (ll_s rfl (ll_s rfl (ll_s rfl (ll_s rfl ll_0))))))))))))) (hkl103 (t23, x24))
                · skip
                  refine vv_jn (fun t25 => (σ, 163, [some (rf G 86), some (.int a1), some (.int a2), none, some (.int t8.1), some (.int t8.2.1), some (.int t8.2.2.1), some (.int t8.2.2.2), some (.int x9), some (.int x10), some (.int x11), none, some (.int t22.2)], [])) (fun t25 => ?_) (fun k163 hk163 => ?_)
                  · skip
                    refine vv_iconst 164 hk dX12_trueGas_163 rfl ic_0 ?_
                    exact vv_le (ll_s rfl (ll_s rfl (ll_s rfl (ll_n (ll_s rfl (ll_s rfl (ll_s rfl (ll_s rfl (ll_s rfl (ll_s rfl (ll_s rfl (ll_n (ll_s rfl ll_0))))))))))))) (hk164 (0 : Int32))
                  · skip
                    refine vv_if_eq 163 114 hk dX12_trueGas_111 rfl rfl ?_ ?_
                    · skip
                      exact vv_le (ll_s rfl (ll_s rfl (ll_s rfl (ll_n (ll_s rfl (ll_s rfl (ll_s rfl (ll_s rfl (ll_s rfl (ll_s rfl (ll_s rfl (ll_n (ll_s rfl ll_0))))))))))))) (hk163 ())
                    · skip
                      refine vv_aload_n (i := 0) 115 hk dX12_trueGas_114 rfl rfl rfl ?_
                      refine vv_getR 118 hk dX12_trueGas_115 rfl la_86 rfl ci_12 rfl fl_12_165 ?_
                      refine vv_iload 120 hk dX12_trueGas_118 rfl rfl ?_
                      refine vv_iald 121 hk he dX12_trueGas_120 rfl la_138 sd_138 (fun v26 => ?_)
                      refine vv_jn (fun t27 => (σ, 159, [some (rf G 86), some (.int a1), some (.int a2), none, some (.int t8.1), some (.int t8.2.1), some (.int t8.2.2.1), some (.int t8.2.2.2), some (.int x9), some (.int x10), some (.int x11), none, some (.int t22.2)], [])) (fun t27 => ?_) (fun k159 hk159 => ?_)
                      · skip
                        refine vv_iconst 160 hk dX12_trueGas_159 rfl ic_1 ?_
                        refine vv_goto 164 hk dX12_trueGas_160 rfl ?_
                        exact vv_le (ll_s rfl (ll_s rfl (ll_s rfl (ll_n (ll_s rfl (ll_s rfl (ll_s rfl (ll_s rfl (ll_s rfl (ll_s rfl (ll_s rfl (ll_n (ll_s rfl ll_0))))))))))))) (hk164 (1 : Int32))
                      · skip
                        refine vv_if_lt 159 124 hk dX12_trueGas_121 rfl rfl ?_ ?_
                        · skip
                          exact vv_le (ll_s rfl (ll_s rfl (ll_s rfl (ll_n (ll_s rfl (ll_s rfl (ll_s rfl (ll_s rfl (ll_s rfl (ll_s rfl (ll_s rfl (ll_n (ll_s rfl ll_0))))))))))))) (hk159 ())
                        · skip
                          refine vv_aload_n (i := 0) 125 hk dX12_trueGas_124 rfl rfl rfl ?_
                          refine vv_iload 127 hk dX12_trueGas_125 rfl rfl ?_
                          refine vv_iload 129 hk dX12_trueGas_127 rfl rfl ?_
                          refine vv_i2l 130 hk dX12_trueGas_129 rfl ?_
                          refine vv_iload 132 hk dX12_trueGas_130 rfl rfl ?_
                          refine vv_i2l 133 hk dX12_trueGas_132 rfl ?_
                          refine vv_iload 135 hk dX12_trueGas_133 rfl rfl ?_
                          refine vv_i2l 136 hk dX12_trueGas_135 rfl ?_
                          refine vv_invIr (st := []) 139 hk he dX12_trueGas_136 rfl ml_12_422 cf_X12_readsBy la_86 ci_12 (c_X12_readsBy G t22.2 x9.toInt64 x10.toInt64 x11.toInt64 σ) rfl rfl rfl rfl (fun v28 => ?_)
                          refine vv_aload_n (i := 0) 140 hk dX12_trueGas_139 rfl rfl rfl ?_
                          refine vv_getR 143 hk dX12_trueGas_140 rfl la_86 rfl ci_12 rfl fl_12_165 ?_
                          refine vv_iload 145 hk dX12_trueGas_143 rfl rfl ?_
                          refine vv_iald 146 hk he dX12_trueGas_145 rfl la_138 sd_138 (fun v29 => ?_)
                          refine vv_isub 147 hk dX12_trueGas_146 rfl ?_
                          refine vv_i2l 148 hk dX12_trueGas_147 rfl ?_
                          refine vv_iload_n (i := 1) 149 hk dX12_trueGas_148 rfl rfl rfl ?_
                          refine vv_ineg 150 hk dX12_trueGas_149 rfl ?_
                          refine vv_i2l 151 hk dX12_trueGas_150 rfl ?_
                          refine vv_iload_n (i := 1) 152 hk dX12_trueGas_151 rfl rfl rfl ?_
                          refine vv_i2l 153 hk dX12_trueGas_152 rfl ?_
                          refine vv_staIr (st := []) 156 hk he dX12_trueGas_153 rfl ml_12_222 sf_X12_isIn (c_X12_isIn G (v28 - v29).toInt64 (-a1).toInt64 a1.toInt64 σ) rfl rfl rfl rfl (fun v30 => ?_)
                          refine vv_if_eq 163 159 hk dX12_trueGas_156 rfl rfl ?_ ?_
                          · skip
                            exact vv_le (ll_s rfl (ll_s rfl (ll_s rfl (ll_n (ll_s rfl (ll_s rfl (ll_s rfl (ll_s rfl (ll_s rfl (ll_s rfl (ll_s rfl (ll_n (ll_s rfl ll_0))))))))))))) (hk163 ())
                          · skip
                            exact vv_le (ll_s rfl (ll_s rfl (ll_s rfl (ll_n (ll_s rfl (ll_s rfl (ll_s rfl (ll_s rfl (ll_s rfl (ll_s rfl (ll_s rfl (ll_n (ll_s rfl ll_0))))))))))))) (hk159 ())
    · skip
      refine vv_aload_n (i := 0) 34 hk dX12_trueGas_33 rfl rfl rfl ?_
      refine vv_iload_n (i := 3) 35 hk dX12_trueGas_34 rfl rfl rfl ?_
      refine vv_invI (st := []) 38 hk he dX12_trueGas_35 rfl ml_12_226 cf_X12_no la_86 ci_12 (c_X12_no G v4 σ) rfl rfl rfl rfl (fun v31 σ32 => ?_)
      exact hret _ _ _ _ dX12_trueGas_38
theorem c_X12_undo (G : GT) (σ : Hp) : CtI G false yX12_undo cX12_undo 1 (some .int) 1 [(rf G 86)] (f_X12_undo σ) σ := by
  refine ctI (L0 := [some (rf G 86)]) (by decide +kernel) rfl rfl rfl (fun κ hk he hret => ?_)
  have hk : KO G κ cX12_undo RX12 1 := hk
  refine vv_aload_n (i := 0) 1 hk dX12_undo_0 rfl rfl rfl ?_
  refine vv_getI 4 hk he dX12_undo_1 rfl la_86 rfl ci_12 rfl fl_12_376 sd_86 ?_
  refine vv_if_ne 14 7 hk dX12_undo_4 rfl rfl ?_ ?_
  · skip
    refine vv_aload_n (i := 0) 8 hk dX12_undo_7 rfl rfl rfl ?_
    refine vv_bipush 10 hk dX12_undo_8 rfl bp_m3 ?_
    refine vv_invI (st := []) 13 hk he dX12_undo_10 rfl ml_12_226 cf_X12_no la_86 ci_12 (c_X12_no G (-3 : Int32) σ) rfl rfl rfl rfl (fun v1 σ2 => ?_)
    exact hret _ _ _ _ dX12_undo_13
  · skip
    refine vv_aload_n (i := 0) 15 hk dX12_undo_14 rfl rfl rfl ?_
    refine vv_dup 16 hk dX12_undo_15 rfl rfl ?_
    refine vv_getI 19 hk he dX12_undo_16 rfl la_86 rfl ci_12 rfl fl_12_376 sd_86 ?_
    refine vv_iconst 20 hk dX12_undo_19 rfl ic_1 ?_
    refine vv_isub 21 hk dX12_undo_20 rfl ?_
    refine vv_putI 24 hk he dX12_undo_21 rfl la_86 rfl ci_12 rfl fl_12_376 sd_86 rfl rfl (fun σ3 => ?_)
    refine vv_aload_n (i := 0) 25 hk dX12_undo_24 rfl rfl rfl ?_
    refine vv_dup 26 hk dX12_undo_25 rfl rfl ?_
    refine vv_getI 29 hk he dX12_undo_26 rfl la_86 rfl ci_12 rfl fl_12_379 sd_86 ?_
    refine vv_iconst 30 hk dX12_undo_29 rfl ic_1 ?_
    refine vv_iadd 31 hk dX12_undo_30 rfl ?_
    refine vv_putI 34 hk he dX12_undo_31 rfl la_86 rfl ci_12 rfl fl_12_379 sd_86 rfl rfl (fun σ4 => ?_)
    refine vv_aload_n (i := 0) 35 hk dX12_undo_34 rfl rfl rfl ?_
    refine vv_aload_n (i := 0) 36 hk dX12_undo_35 rfl rfl rfl ?_
    refine vv_getR 39 hk dX12_undo_36 rfl la_86 rfl ci_12 rfl fl_12_116 ?_
    refine vv_aload_n (i := 0) 40 hk dX12_undo_39 rfl rfl rfl ?_
    refine vv_getI 43 hk he dX12_undo_40 rfl la_86 rfl ci_12 rfl fl_12_376 sd_86 ?_
    refine vv_iald 44 hk he dX12_undo_43 rfl la_122 sd_122 (fun v5 => ?_)
    refine vv_aload_n (i := 0) 45 hk dX12_undo_44 rfl rfl rfl ?_
    refine vv_getR 48 hk dX12_undo_45 rfl la_86 rfl ci_12 rfl fl_12_119 ?_
    refine vv_aload_n (i := 0) 49 hk dX12_undo_48 rfl rfl rfl ?_
    refine vv_getI 52 hk he dX12_undo_49 rfl la_86 rfl ci_12 rfl fl_12_376 sd_86 ?_
    refine vv_iald 53 hk he dX12_undo_52 rfl la_123 sd_123 (fun v6 => ?_)
    refine vv_aload_n (i := 0) 54 hk dX12_undo_53 rfl rfl rfl ?_
    refine vv_getR 57 hk dX12_undo_54 rfl la_86 rfl ci_12 rfl fl_12_122 ?_
    refine vv_aload_n (i := 0) 58 hk dX12_undo_57 rfl rfl rfl ?_
    refine vv_getI 61 hk he dX12_undo_58 rfl la_86 rfl ci_12 rfl fl_12_376 sd_86 ?_
    refine vv_iald 62 hk he dX12_undo_61 rfl la_124 sd_124 (fun v7 => ?_)
    refine vv_invV (st := []) 65 hk he dX12_undo_62 rfl ml_12_385 cf_X12_becomes la_86 ci_12 (c_X12_becomes G v5 v6 v7 σ4) rfl rfl rfl rfl (fun σ8 => ?_)
    refine vv_iconst 66 hk dX12_undo_65 rfl ic_1 ?_
    exact hret _ _ _ _ dX12_undo_66
theorem c_X12_unrule (G : GT) (a1 : Int32) (σ : Hp) : CtI G false yX12_unrule cX12_unrule 2 (some .int) 1 [(rf G 86), (.int a1)] (f_X12_unrule a1 σ) σ := by
  refine ctI (L0 := [some (rf G 86), some (.int a1)]) (by decide +kernel) rfl rfl rfl (fun κ hk he hret => ?_)
  have hk : KO G κ cX12_unrule RX12 1 := hk
  refine vv_iload_n (i := 1) 1 hk dX12_unrule_0 rfl rfl rfl ?_
  refine vv_i2l 2 hk dX12_unrule_1 rfl ?_
  refine vv_lconst 3 hk dX12_unrule_2 rfl lc_0 ?_
  refine vv_aload_n (i := 0) 4 hk dX12_unrule_3 rfl rfl rfl ?_
  refine vv_getI 7 hk he dX12_unrule_4 rfl la_86 rfl ci_12 rfl fl_12_336 sd_86 ?_
  refine vv_iconst 8 hk dX12_unrule_7 rfl ic_1 ?_
  refine vv_isub 9 hk dX12_unrule_8 rfl ?_
  refine vv_i2l 10 hk dX12_unrule_9 rfl ?_
  refine vv_staIr (st := []) 13 hk he dX12_unrule_10 rfl ml_12_222 sf_X12_isIn (c_X12_isIn G a1.toInt64 (0 : Int64) ((σ.1 86 38) - (1 : Int32)).toInt64 σ) rfl rfl rfl rfl (fun v1 => ?_)
  refine vv_jn (fun t2 => (σ, 25, [some (rf G 86), none], [])) (fun t2 => ?_) (fun k25 hk25 => ?_)
  · skip
    refine vv_aload_n (i := 0) 26 hk dX12_unrule_25 rfl rfl rfl ?_
    refine vv_iconst 27 hk dX12_unrule_26 rfl ic_m1 ?_
    refine vv_invI (st := []) 30 hk he dX12_unrule_27 rfl ml_12_226 cf_X12_no la_86 ci_12 (c_X12_no G (-1 : Int32) σ) rfl rfl rfl rfl (fun v3 σ4 => ?_)
    exact hret _ _ _ _ dX12_unrule_30
  · skip
    refine vv_if_eq 25 16 hk dX12_unrule_13 rfl rfl ?_ ?_
    · skip
      exact vv_le (ll_s rfl (ll_n ll_0)) (hk25 ())
    · skip
      refine vv_aload_n (i := 0) 17 hk dX12_unrule_16 rfl rfl rfl ?_
      refine vv_getR 20 hk dX12_unrule_17 rfl la_86 rfl ci_12 rfl fl_12_107 ?_
      refine vv_iload_n (i := 1) 21 hk dX12_unrule_20 rfl rfl rfl ?_
      refine vv_zald 22 hk he dX12_unrule_21 rfl la_119 sd_119 (fun v5 => ?_)
      refine vv_if_eq 31 25 hk dX12_unrule_22 rfl rfl ?_ ?_
      · skip
        refine vv_aload_n (i := 0) 32 hk dX12_unrule_31 rfl rfl rfl ?_
        refine vv_getR 35 hk dX12_unrule_32 rfl la_86 rfl ci_12 rfl fl_12_107 ?_
        refine vv_iload_n (i := 1) 36 hk dX12_unrule_35 rfl rfl rfl ?_
        refine vv_iconst 37 hk dX12_unrule_36 rfl ic_1 ?_
        refine vv_zast 38 hk he dX12_unrule_37 rfl la_119 sd_119 (fun σ6 => ?_)
        refine vv_iconst 39 hk dX12_unrule_38 rfl ic_1 ?_
        exact hret _ _ _ _ dX12_unrule_39
      · skip
        exact vv_le (ll_s rfl (ll_n ll_0)) (hk25 ())
theorem c_X12_valve (G : GT) (a1 : Int32) (a2 : Int32) (σ : Hp) : CtI G false yX12_valve cX12_valve 3 (some .int) 6 [(rf G 86), (.int a1), (.int a2)] (f_X12_valve a1 a2 σ) σ := by
  refine ctI (L0 := [some (rf G 86), some (.int a1), some (.int a2)]) (by decide +kernel) rfl rfl rfl (fun κ hk he hret => ?_)
  have hk : KO G κ cX12_valve RX12 6 := hk
  refine vv_aload_n (i := 0) 1 hk dX12_valve_0 rfl rfl rfl ?_
  refine vv_iload_n (i := 1) 2 hk dX12_valve_1 rfl rfl rfl ?_
  refine vv_invIr (st := []) 5 hk he dX12_valve_2 rfl ml_12_342 cf_X12_isPipe la_86 ci_12 (c_X12_isPipe G a1 σ) rfl rfl rfl rfl (fun v1 => ?_)
  refine vv_if_ne 14 8 hk dX12_valve_5 rfl rfl ?_ ?_
  · skip
    refine vv_aload_n (i := 0) 9 hk dX12_valve_8 rfl rfl rfl ?_
    refine vv_iconst 10 hk dX12_valve_9 rfl ic_m1 ?_
    refine vv_invI (st := []) 13 hk he dX12_valve_10 rfl ml_12_226 cf_X12_no la_86 ci_12 (c_X12_no G (-1 : Int32) σ) rfl rfl rfl rfl (fun v2 σ3 => ?_)
    exact hret _ _ _ _ dX12_valve_13
  · skip
    refine vv_aload_n (i := 0) 15 hk dX12_valve_14 rfl rfl rfl ?_
    refine vv_getR 18 hk dX12_valve_15 rfl la_86 rfl ci_12 rfl fl_12_61 ?_
    refine vv_iload_n (i := 1) 19 hk dX12_valve_18 rfl rfl rfl ?_
    refine vv_zald 20 hk he dX12_valve_19 rfl la_104 sd_104 (fun v4 => ?_)
    refine vv_iload_n (i := 2) 21 hk dX12_valve_20 rfl rfl rfl ?_
    refine vv_icmp_ne 26 24 hk dX12_valve_21 rfl rfl ?_ ?_
    · skip
      refine vv_iconst 25 hk dX12_valve_24 rfl ic_0 ?_
      exact hret _ _ _ _ dX12_valve_25
    · skip
      refine vv_iload_n (i := 2) 27 hk dX12_valve_26 rfl rfl rfl ?_
      refine vv_jn (fun t5 => (t5, 46, [some (rf G 86), some (.int a1), some (.int a2)], [])) (fun t5 => ?_) (fun k46 hk46 => ?_)
      · skip
        refine vv_aload_n (i := 0) 47 hk dX12_valve_46 rfl rfl rfl ?_
        refine vv_iconst 48 hk dX12_valve_47 rfl ic_0 ?_
        refine vv_iload_n (i := 1) 49 hk dX12_valve_48 rfl rfl rfl ?_
        refine vv_iload_n (i := 2) 50 hk dX12_valve_49 rfl rfl rfl ?_
        refine vv_jn (fun t6 => (t5, 58, [some (rf G 86), none, none], [(.int t6), (.int a1), (.int (0 : Int32)), (rf G 86)])) (fun t6 => ?_) (fun k58 hk58 => ?_)
        · skip
          refine vv_invI (st := []) 61 hk he dX12_valve_58 rfl ml_12_388 cf_X12_acts la_86 ci_12 (c_X12_acts G (0 : Int32) a1 t6 t5) rfl rfl rfl rfl (fun v7 σ8 => ?_)
          exact hret _ _ _ _ dX12_valve_61
        · skip
          refine vv_if_eq 57 53 hk dX12_valve_50 rfl rfl ?_ ?_
          · skip
            refine vv_iconst 58 hk dX12_valve_57 rfl ic_0 ?_
            exact vv_le (ll_s rfl (ll_n (ll_n ll_0))) (hk58 (0 : Int32))
          · skip
            refine vv_iconst 54 hk dX12_valve_53 rfl ic_1 ?_
            refine vv_goto 58 hk dX12_valve_54 rfl ?_
            exact vv_le (ll_s rfl (ll_n (ll_n ll_0))) (hk58 (1 : Int32))
      · skip
        refine vv_if_eq 46 30 hk dX12_valve_27 rfl rfl ?_ ?_
        · skip
          exact vv_le (ll_s rfl (ll_s rfl (ll_s rfl ll_0))) (hk46 σ)
        · skip
          refine vv_aload_n (i := 0) 31 hk dX12_valve_30 rfl rfl rfl ?_
          refine vv_iload_n (i := 1) 32 hk dX12_valve_31 rfl rfl rfl ?_
          refine vv_iconst 33 hk dX12_valve_32 rfl ic_0 ?_
          refine vv_invI (st := []) 36 hk he dX12_valve_33 rfl ml_12_372 cf_X12_forbidden la_86 ci_12 (c_X12_forbidden G a1 (0 : Int32) σ) rfl rfl rfl rfl (fun v9 σ10 => ?_)
          refine vv_if_lt 46 39 hk dX12_valve_36 rfl rfl ?_ ?_
          · skip
            exact vv_le (ll_s rfl (ll_s rfl (ll_s rfl ll_0))) (hk46 σ10)
          · skip
            refine vv_aload_n (i := 0) 40 hk dX12_valve_39 rfl rfl rfl ?_
            refine vv_bipush 42 hk dX12_valve_40 rfl bp_m7 ?_
            refine vv_invI (st := []) 45 hk he dX12_valve_42 rfl ml_12_226 cf_X12_no la_86 ci_12 (c_X12_no G (-7 : Int32) σ10) rfl rfl rfl rfl (fun v11 σ12 => ?_)
            exact hret _ _ _ _ dX12_valve_45
theorem c_X12_walks (G : GT) (a1 : Int32) (a2 : Int32) (a3 : Int32) (σ : Hp) : CtI G false yX12_walks cX12_walks 12 (some .int) 1 [(rf G 86), (.int a1), (.int a2), (.int a3)] (f_X12_walks a1 a2 a3 σ) σ := by
  refine ctI (L0 := [some (rf G 86), some (.int a1), some (.int a2), some (.int a3), none, none, none, none, none, none, none, none]) (by decide +kernel) rfl rfl rfl (fun κ hk he hret => ?_)
  have hk : KO G κ cX12_walks RX12 1 := hk
  refine vv_iload_n (i := 1) 1 hk dX12_walks_0 rfl rfl rfl ?_
  refine vv_i2l 2 hk dX12_walks_1 rfl ?_
  refine vv_lconst 3 hk dX12_walks_2 rfl lc_0 ?_
  refine vv_ldc2 6 hk dX12_walks_3 rfl cw_12_300 ?_
  refine vv_staIr (st := []) 9 hk he dX12_walks_6 rfl ml_12_222 sf_X12_isIn (c_X12_isIn G a1.toInt64 (0 : Int64) (4 : Int64) σ) rfl rfl rfl rfl (fun v1 => ?_)
  refine vv_if_ne 18 12 hk dX12_walks_9 rfl rfl ?_ ?_
  · skip
    refine vv_aload_n (i := 0) 13 hk dX12_walks_12 rfl rfl rfl ?_
    refine vv_iconst 14 hk dX12_walks_13 rfl ic_m1 ?_
    refine vv_invI (st := []) 17 hk he dX12_walks_14 rfl ml_12_226 cf_X12_no la_86 ci_12 (c_X12_no G (-1 : Int32) σ) rfl rfl rfl rfl (fun v2 σ3 => ?_)
    exact hret _ _ _ _ dX12_walks_17
  · skip
    refine vv_iload_n (i := 3) 19 hk dX12_walks_18 rfl rfl rfl ?_
    refine vv_i2l 20 hk dX12_walks_19 rfl ?_
    refine vv_lconst 21 hk dX12_walks_20 rfl lc_0 ?_
    refine vv_ldc2 24 hk dX12_walks_21 rfl cw_12_290 ?_
    refine vv_staIr (st := []) 27 hk he dX12_walks_24 rfl ml_12_222 sf_X12_isIn (c_X12_isIn G a3.toInt64 (0 : Int64) (2 : Int64) σ) rfl rfl rfl rfl (fun v4 => ?_)
    refine vv_if_ne 37 30 hk dX12_walks_27 rfl rfl ?_ ?_
    · skip
      refine vv_aload_n (i := 0) 31 hk dX12_walks_30 rfl rfl rfl ?_
      refine vv_bipush 33 hk dX12_walks_31 rfl bp_m2 ?_
      refine vv_invI (st := []) 36 hk he dX12_walks_33 rfl ml_12_226 cf_X12_no la_86 ci_12 (c_X12_no G (-2 : Int32) σ) rfl rfl rfl rfl (fun v5 σ6 => ?_)
      exact hret _ _ _ _ dX12_walks_36
    · skip
      refine vv_iload_n (i := 2) 38 hk dX12_walks_37 rfl rfl rfl ?_
      refine vv_i2l 39 hk dX12_walks_38 rfl ?_
      refine vv_lconst 40 hk dX12_walks_39 rfl lc_1 ?_
      refine vv_ldc2 43 hk dX12_walks_40 rfl cw_12_418 ?_
      refine vv_staIr (st := []) 46 hk he dX12_walks_43 rfl ml_12_232 sf_X12_out (c_X12_out G a2.toInt64 (1 : Int64) (12 : Int64) σ) rfl rfl rfl rfl (fun v7 => ?_)
      refine vv_istore 48 [some (rf G 86), some (.int a1), some (.int a2), some (.int a3), some (.int v7), none, none, none, none, none, none, none] hk dX12_walks_46 rfl rfl rfl ?_
      refine vv_iload 50 hk dX12_walks_48 rfl rfl ?_
      refine vv_if_eq 60 53 hk dX12_walks_50 rfl rfl ?_ ?_
      · skip
        refine vv_iconst 61 hk dX12_walks_60 rfl ic_0 ?_
        refine vv_istore 63 [some (rf G 86), some (.int a1), some (.int a2), some (.int a3), some (.int v7), some (.int (0 : Int32)), none, none, none, none, none, none] hk dX12_walks_61 rfl rfl rfl ?_
        refine vv_iconst 64 hk dX12_walks_63 rfl ic_0 ?_
        refine vv_istore 66 [some (rf G 86), some (.int a1), some (.int a2), some (.int a3), some (.int v7), some (.int (0 : Int32)), some (.int (0 : Int32)), none, none, none, none, none] hk dX12_walks_64 rfl rfl rfl ?_
        refine vv_iconst 67 hk dX12_walks_66 rfl ic_0 ?_
        refine vv_istore 69 [some (rf G 86), some (.int a1), some (.int a2), some (.int a3), some (.int v7), some (.int (0 : Int32)), some (.int (0 : Int32)), some (.int (0 : Int32)), none, none, none, none] hk dX12_walks_67 rfl rfl rfl ?_
        refine vv_jn (fun t8 => (t8, 100, [some (rf G 86), some (.int a1), some (.int a2), some (.int a3), none, some (.int (0 : Int32)), some (.int (0 : Int32)), none, none, none, none, none], [])) (fun t8 => ?_) (fun k100 hk100 => ?_)
        · skip
          refine vv_iconst 101 hk dX12_walks_100 rfl ic_0 ?_
          refine vv_istore 103 [some (rf G 86), some (.int a1), some (.int a2), some (.int a3), none, some (.int (0 : Int32)), some (.int (0 : Int32)), some (.int (0 : Int32)), none, none, none, none] hk dX12_walks_101 rfl rfl rfl ?_
          refine vv_jn (fun t9 => (t9.2.2, 378, [some (rf G 86), none, none, some (.int a3), none, some (.int t9.1), some (.int t9.2.1), none, none, none, none, none], [])) (fun t9 => ?_) (fun k378 hk378 => ?_)
          · skip
            refine vv_iconst 379 hk dX12_walks_378 rfl ic_0 ?_
            refine vv_istore 381 [some (rf G 86), none, none, some (.int a3), none, some (.int t9.1), some (.int t9.2.1), some (.int (0 : Int32)), none, none, none, none] hk dX12_walks_379 rfl rfl rfl ?_
            refine vv_iconst 382 hk dX12_walks_381 rfl ic_0 ?_
            refine vv_istore 384 [some (rf G 86), none, none, some (.int a3), none, some (.int t9.1), some (.int t9.2.1), some (.int (0 : Int32)), some (.int (0 : Int32)), none, none, none] hk dX12_walks_382 rfl rfl rfl ?_
            refine vv_jn (fun t10 => (t9.2.2, 409, [some (rf G 86), none, none, some (.int a3), none, some (.int t9.1), some (.int t9.2.1), some (.int t10), none, none, none, none], [])) (fun t10 => ?_) (fun k409 hk409 => ?_)
            · skip
              refine vv_iload_n (i := 3) 410 hk dX12_walks_409 rfl rfl rfl ?_
              refine vv_jn (fun t11 => (t9.2.2, 430, [some (rf G 86), none, none, none, none, none, none, none, none, none, none, none], [(.int t11)])) (fun t11 => ?_) (fun k430 hk430 => ?_)
              · skip
                exact hret _ _ _ _ dX12_walks_430
              · skip
                refine vv_if_ne 418 413 hk dX12_walks_410 rfl rfl ?_ ?_
                · skip
                  refine vv_iload 415 hk dX12_walks_413 rfl rfl ?_
                  refine vv_goto 430 hk dX12_walks_415 rfl ?_
                  exact vv_le (ll_s rfl (ll_n (ll_n (ll_n (ll_n (ll_n (ll_n (ll_n (ll_n (ll_n (ll_n (ll_n ll_0)))))))))))) (hk430 t9.1)
                · skip
                  refine vv_iload_n (i := 3) 419 hk dX12_walks_418 rfl rfl rfl ?_
                  refine vv_iconst 420 hk dX12_walks_419 rfl ic_1 ?_
                  refine vv_icmp_ne 428 423 hk dX12_walks_420 rfl rfl ?_ ?_
                  · skip
                    refine vv_iload 425 hk dX12_walks_423 rfl rfl ?_
                    refine vv_goto 430 hk dX12_walks_425 rfl ?_
                    exact vv_le (ll_s rfl (ll_n (ll_n (ll_n (ll_n (ll_n (ll_n (ll_n (ll_n (ll_n (ll_n (ll_n ll_0)))))))))))) (hk430 t9.2.1)
                  · skip
                    refine vv_iload 430 hk dX12_walks_428 rfl rfl ?_
                    exact vv_le (ll_s rfl (ll_n (ll_n (ll_n (ll_n (ll_n (ll_n (ll_n (ll_n (ll_n (ll_n (ll_n ll_0)))))))))))) (hk430 t10)
            · skip
              refine vv_lp (fun t12 => (t9.2.2, 384, [some (rf G 86), none, none, some (.int a3), none, some (.int t9.1), some (.int t9.2.1), some (.int t12.1), some (.int t12.2), none, none, none], [])) (fun kl384 hkl384 t12 => ?_) FU ((0 : Int32), (0 : Int32))
              refine vv_iload 386 hk dX12_walks_384 rfl rfl ?_
              refine vv_bipush 388 hk dX12_walks_386 rfl bp_25 ?_
              refine vv_icmp_ge 409 391 hk dX12_walks_388 rfl rfl ?_ ?_
              · skip
                exact vv_le (ll_s rfl (ll_n (ll_n (ll_s rfl (ll_n (ll_s rfl (ll_s rfl (ll_s rfl (ll_n (ll_n (ll_n (ll_n ll_0)))))))))))) (hk409 t12.1)
              · skip
                refine vv_iload 393 hk dX12_walks_391 rfl rfl ?_
                refine vv_aload_n (i := 0) 394 hk dX12_walks_393 rfl rfl rfl ?_
                refine vv_getR 397 hk dX12_walks_394 rfl la_86 rfl ci_12 rfl fl_12_150 ?_
                refine vv_iload 399 hk dX12_walks_397 rfl rfl ?_
                refine vv_iald 400 hk he dX12_walks_399 rfl la_133 sd_133 (fun v13 => ?_)
                refine vv_iadd 401 hk dX12_walks_400 rfl ?_
                refine vv_istoreL 403 (fun x14 => [some (rf G 86), none, none, some (.int a3), none, some (.int t9.1), some (.int t9.2.1), some (.int x14), some (.int t12.2), none, none, none]) hk dX12_walks_401 rfl rfl (fun _ => rfl) (fun x14 => ?_)
                refine vv_iinc 406 (fun x15 => [some (rf G 86), none, none, some (.int a3), none, some (.int t9.1), some (.int t9.2.1), some (.int x14), some (.int x15), none, none, none]) hk dX12_walks_403 rfl rfl ic_1 (fun _ => rfl) (fun x15 => ?_)
                refine vv_goto 384 hk dX12_walks_406 rfl ?_
                exact vv_le (ll_s rfl (ll_n (ll_n (ll_s rfl (ll_n (ll_s rfl (ll_s rfl (ll_s rfl (ll_s rfl (ll_n (ll_n (ll_n ll_0)))))))))))) (hkl384 (x14, x15))
          · skip
            refine vv_lp (fun t16 => (t16.2.2.2, 103, [some (rf G 86), some (.int a1), some (.int a2), some (.int a3), none, some (.int t16.1), some (.int t16.2.1), some (.int t16.2.2.1), none, none, none, none], [])) (fun kl103 hkl103 t16 => ?_) FU ((0 : Int32), (0 : Int32), (0 : Int32), t8)
            refine vv_iload 105 hk dX12_walks_103 rfl rfl ?_
            refine vv_iload_n (i := 2) 106 hk dX12_walks_105 rfl rfl rfl ?_
            refine vv_icmp_ge 378 109 hk dX12_walks_106 rfl rfl ?_ ?_
            · skip
              exact vv_le (ll_s rfl (ll_n (ll_n (ll_s rfl (ll_n (ll_s rfl (ll_s rfl (ll_n (ll_n (ll_n (ll_n (ll_n ll_0)))))))))))) (hk378 (t16.1, t16.2.1, t16.2.2.2))
            · skip
              refine vv_iload 111 hk dX12_walks_109 rfl rfl ?_
              refine vv_iconst 112 hk dX12_walks_111 rfl ic_4 ?_
              refine vv_imul 113 hk dX12_walks_112 rfl ?_
              refine vv_istoreL 115 (fun x17 => [some (rf G 86), some (.int a1), some (.int a2), some (.int a3), none, some (.int x17), some (.int t16.2.1), some (.int t16.2.2.1), none, none, none, none]) hk dX12_walks_113 rfl rfl (fun _ => rfl) (fun x17 => ?_)
              refine vv_iload 117 hk dX12_walks_115 rfl rfl ?_
              refine vv_iconst 118 hk dX12_walks_117 rfl ic_4 ?_
              refine vv_imul 119 hk dX12_walks_118 rfl ?_
              refine vv_istoreL 121 (fun x18 => [some (rf G 86), some (.int a1), some (.int a2), some (.int a3), none, some (.int x17), some (.int x18), some (.int t16.2.2.1), none, none, none, none]) hk dX12_walks_119 rfl rfl (fun _ => rfl) (fun x18 => ?_)
              refine vv_iconst 122 hk dX12_walks_121 rfl ic_0 ?_
              refine vv_istore 124 [some (rf G 86), some (.int a1), some (.int a2), some (.int a3), none, some (.int x17), some (.int x18), some (.int t16.2.2.1), some (.int (0 : Int32)), none, none, none] hk dX12_walks_122 rfl rfl rfl ?_
              refine vv_jn (fun t19 => (t19, 145, [some (rf G 86), some (.int a1), some (.int a2), some (.int a3), none, some (.int x17), some (.int x18), some (.int t16.2.2.1), none, none, none, none], [])) (fun t19 => ?_) (fun k145 hk145 => ?_)
              · skip
                refine vv_iconst 146 hk dX12_walks_145 rfl ic_0 ?_
                refine vv_istore 148 [some (rf G 86), some (.int a1), some (.int a2), some (.int a3), none, some (.int x17), some (.int x18), some (.int t16.2.2.1), some (.int (0 : Int32)), none, none, none] hk dX12_walks_146 rfl rfl rfl ?_
                refine vv_jn (fun t20 => (t20.2.2, 342, [some (rf G 86), some (.int a1), some (.int a2), some (.int a3), none, some (.int t20.1), some (.int t20.2.1), some (.int t16.2.2.1), none, none, none, none], [])) (fun t20 => ?_) (fun k342 hk342 => ?_)
                · skip
                  refine vv_iconst 343 hk dX12_walks_342 rfl ic_0 ?_
                  refine vv_istore 345 [some (rf G 86), some (.int a1), some (.int a2), some (.int a3), none, some (.int t20.1), some (.int t20.2.1), some (.int t16.2.2.1), some (.int (0 : Int32)), none, none, none] hk dX12_walks_343 rfl rfl rfl ?_
                  refine vv_jn (fun t21 => (t21, 372, [some (rf G 86), some (.int a1), some (.int a2), some (.int a3), none, some (.int t20.1), some (.int t20.2.1), some (.int t16.2.2.1), none, none, none, none], [])) (fun t21 => ?_) (fun k372 hk372 => ?_)
                  · skip
                    refine vv_iinc 375 (fun x22 => [some (rf G 86), some (.int a1), some (.int a2), some (.int a3), none, some (.int t20.1), some (.int t20.2.1), some (.int x22), none, none, none, none]) hk dX12_walks_372 rfl rfl ic_1 (fun _ => rfl) (fun x22 => ?_)
                    refine vv_goto 103 hk dX12_walks_375 rfl ?_
                    exact vv_le (ll_s rfl (ll_s rfl (ll_s rfl (ll_s rfl (ll_n (ll_s rfl (ll_s rfl (ll_s rfl (ll_n (ll_n (ll_n (ll_n ll_0)))))))))))) (hkl103 (t20.1, t20.2.1, x22, t21))
                  · skip
                    refine vv_lp (fun t23 => (t23.2, 345, [some (rf G 86), some (.int a1), some (.int a2), some (.int a3), none, some (.int t20.1), some (.int t20.2.1), some (.int t16.2.2.1), some (.int t23.1), none, none, none], [])) (fun kl345 hkl345 t23 => ?_) FU ((0 : Int32), t20.2.2)
                    refine vv_iload 347 hk dX12_walks_345 rfl rfl ?_
                    refine vv_bipush 349 hk dX12_walks_347 rfl bp_25 ?_
                    refine vv_icmp_ge 372 352 hk dX12_walks_349 rfl rfl ?_ ?_
                    · skip
                      exact vv_le (ll_s rfl (ll_s rfl (ll_s rfl (ll_s rfl (ll_n (ll_s rfl (ll_s rfl (ll_s rfl (ll_n (ll_n (ll_n (ll_n ll_0)))))))))))) (hk372 t23.2)
                    · skip
                      refine vv_aload_n (i := 0) 353 hk dX12_walks_352 rfl rfl rfl ?_
                      refine vv_getR 356 hk dX12_walks_353 rfl la_86 rfl ci_12 rfl fl_12_150 ?_
                      refine vv_iload 358 hk dX12_walks_356 rfl rfl ?_
                      refine vv_aload_n (i := 0) 359 hk dX12_walks_358 rfl rfl rfl ?_
                      refine vv_getR 362 hk dX12_walks_359 rfl la_86 rfl ci_12 rfl fl_12_153 ?_
                      refine vv_iload 364 hk dX12_walks_362 rfl rfl ?_
                      refine vv_iald 365 hk he dX12_walks_364 rfl la_134 sd_134 (fun v24 => ?_)
                      refine vv_iast 366 hk he dX12_walks_365 rfl la_133 sd_133 (fun σ25 => ?_)
                      refine vv_iinc 369 (fun x26 => [some (rf G 86), some (.int a1), some (.int a2), some (.int a3), none, some (.int t20.1), some (.int t20.2.1), some (.int t16.2.2.1), some (.int x26), none, none, none]) hk dX12_walks_366 rfl rfl ic_1 (fun _ => rfl) (fun x26 => ?_)
                      refine vv_goto 345 hk dX12_walks_369 rfl ?_
                      exact vv_le (ll_s rfl (ll_s rfl (ll_s rfl (ll_s rfl (ll_n (ll_s rfl (ll_s rfl (ll_s rfl (ll_s rfl (ll_n (ll_n (ll_n ll_0)))))))))))) (hkl345 (x26, σ25))
                · skip
                  refine vv_lp (fun t27 => (t27.2.2.2, 148, [some (rf G 86), some (.int a1), some (.int a2), some (.int a3), none, some (.int t27.1), some (.int t27.2.1), some (.int t16.2.2.1), some (.int t27.2.2.1), none, none, none], [])) (fun kl148 hkl148 t27 => ?_) FU (x17, x18, (0 : Int32), t19)
                  refine vv_iload 150 hk dX12_walks_148 rfl rfl ?_
                  refine vv_bipush 152 hk dX12_walks_150 rfl bp_25 ?_
                  refine vv_icmp_ge 342 155 hk dX12_walks_152 rfl rfl ?_ ?_
                  · skip
                    exact vv_le (ll_s rfl (ll_s rfl (ll_s rfl (ll_s rfl (ll_n (ll_s rfl (ll_s rfl (ll_s rfl (ll_n (ll_n (ll_n (ll_n ll_0)))))))))))) (hk342 (t27.1, t27.2.1, t27.2.2.2))
                  · skip
                    refine vv_iconst 156 hk dX12_walks_155 rfl ic_0 ?_
                    refine vv_istore 158 [some (rf G 86), some (.int a1), some (.int a2), some (.int a3), none, some (.int t27.1), some (.int t27.2.1), some (.int t16.2.2.1), some (.int t27.2.2.1), some (.int (0 : Int32)), none, none] hk dX12_walks_156 rfl rfl rfl ?_
                    refine vv_jn (fun t28 => (t28.2.2, 336, [some (rf G 86), some (.int a1), some (.int a2), some (.int a3), none, some (.int t28.1), some (.int t28.2.1), some (.int t16.2.2.1), some (.int t27.2.2.1), none, none, none], [])) (fun t28 => ?_) (fun k336 hk336 => ?_)
                    · skip
                      refine vv_iinc 339 (fun x29 => [some (rf G 86), some (.int a1), some (.int a2), some (.int a3), none, some (.int t28.1), some (.int t28.2.1), some (.int t16.2.2.1), some (.int x29), none, none, none]) hk dX12_walks_336 rfl rfl ic_1 (fun _ => rfl) (fun x29 => ?_)
                      refine vv_goto 148 hk dX12_walks_339 rfl ?_
                      exact vv_le (ll_s rfl (ll_s rfl (ll_s rfl (ll_s rfl (ll_n (ll_s rfl (ll_s rfl (ll_s rfl (ll_s rfl (ll_n (ll_n (ll_n ll_0)))))))))))) (hkl148 (t28.1, t28.2.1, x29, t28.2.2))
                    · skip
                      refine vv_lp (fun t30 => (t30.2.2.2, 158, [some (rf G 86), some (.int a1), some (.int a2), some (.int a3), none, some (.int t30.1), some (.int t30.2.1), some (.int t16.2.2.1), some (.int t27.2.2.1), some (.int t30.2.2.1), none, none], [])) (fun kl158 hkl158 t30 => ?_) FU (t27.1, t27.2.1, (0 : Int32), t27.2.2.2)
                      refine vv_iload 160 hk dX12_walks_158 rfl rfl ?_
                      refine vv_iconst 161 hk dX12_walks_160 rfl ic_4 ?_
                      refine vv_icmp_ge 336 164 hk dX12_walks_161 rfl rfl ?_ ?_
                      · skip
                        exact vv_le (ll_s rfl (ll_s rfl (ll_s rfl (ll_s rfl (ll_n (ll_s rfl (ll_s rfl (ll_s rfl (ll_s rfl (ll_n (ll_n (ll_n ll_0)))))))))))) (hk336 (t30.1, t30.2.1, t30.2.2.2))
                      · skip
                        refine vv_iload 166 hk dX12_walks_164 rfl rfl ?_
                        refine vv_iconst 167 hk dX12_walks_166 rfl ic_5 ?_
                        refine vv_idiv 168 hk dX12_walks_167 rfl ?_
                        refine vv_aload_n (i := 0) 169 hk dX12_walks_168 rfl rfl rfl ?_
                        refine vv_getR 172 hk dX12_walks_169 rfl la_86 rfl ci_12 rfl fl_12_156 ?_
                        refine vv_iload 174 hk dX12_walks_172 rfl rfl ?_
                        refine vv_iald 175 hk he dX12_walks_174 rfl la_135 sd_135 (fun v31 => ?_)
                        refine vv_iadd 176 hk dX12_walks_175 rfl ?_
                        refine vv_istoreL 178 (fun x32 => [some (rf G 86), some (.int a1), some (.int a2), some (.int a3), none, some (.int t30.1), some (.int t30.2.1), some (.int t16.2.2.1), some (.int t27.2.2.1), some (.int t30.2.2.1), some (.int x32), none]) hk dX12_walks_176 rfl rfl (fun _ => rfl) (fun x32 => ?_)
                        refine vv_iload 180 hk dX12_walks_178 rfl rfl ?_
                        refine vv_iconst 181 hk dX12_walks_180 rfl ic_5 ?_
                        refine vv_irem 182 hk dX12_walks_181 rfl ?_
                        refine vv_aload_n (i := 0) 183 hk dX12_walks_182 rfl rfl rfl ?_
                        refine vv_getR 186 hk dX12_walks_183 rfl la_86 rfl ci_12 rfl fl_12_159 ?_
                        refine vv_iload 188 hk dX12_walks_186 rfl rfl ?_
                        refine vv_iald 189 hk he dX12_walks_188 rfl la_136 sd_136 (fun v33 => ?_)
                        refine vv_iadd 190 hk dX12_walks_189 rfl ?_
                        refine vv_istoreL 192 (fun x34 => [some (rf G 86), some (.int a1), some (.int a2), some (.int a3), none, some (.int t30.1), some (.int t30.2.1), some (.int t16.2.2.1), some (.int t27.2.2.1), some (.int t30.2.2.1), some (.int x32), some (.int x34)]) hk dX12_walks_190 rfl rfl (fun _ => rfl) (fun x34 => ?_)
                        refine vv_aload_n (i := 0) 193 hk dX12_walks_192 rfl rfl rfl ?_
                        refine vv_getR 196 hk dX12_walks_193 rfl la_86 rfl ci_12 rfl fl_12_147 ?_
                        refine vv_iload_n (i := 1) 197 hk dX12_walks_196 rfl rfl rfl ?_
                        refine vv_zald 198 hk he dX12_walks_197 rfl la_132 sd_132 (fun v35 => ?_)
                        refine vv_jn (fun t36 => (t36.2.2, 330, [some (rf G 86), some (.int a1), some (.int a2), some (.int a3), none, some (.int t36.1), some (.int t36.2.1), some (.int t16.2.2.1), some (.int t27.2.2.1), some (.int t30.2.2.1), none, none], [])) (fun t36 => ?_) (fun k330 hk330 => ?_)
                        · skip
                          refine vv_iinc 333 (fun x37 => [some (rf G 86), some (.int a1), some (.int a2), some (.int a3), none, some (.int t36.1), some (.int t36.2.1), some (.int t16.2.2.1), some (.int t27.2.2.1), some (.int x37), none, none]) hk dX12_walks_330 rfl rfl ic_1 (fun _ => rfl) (fun x37 => ?_)
                          refine vv_goto 158 hk dX12_walks_333 rfl ?_
                          exact vv_le (ll_s rfl (ll_s rfl (ll_s rfl (ll_s rfl (ll_n (ll_s rfl (ll_s rfl (ll_s rfl (ll_s rfl (ll_s rfl (ll_n (ll_n ll_0)))))))))))) (hkl158 (t36.1, t36.2.1, x37, t36.2.2))
                        · skip
                          refine vv_if_eq 221 201 hk dX12_walks_198 rfl rfl ?_ ?_
                          · skip
                            refine vv_iload 223 hk dX12_walks_221 rfl rfl ?_
                            refine vv_if_ge 241 226 hk dX12_walks_223 rfl rfl ?_ ?_
                            · skip
                              refine vv_iload 243 hk dX12_walks_241 rfl rfl ?_
                              refine vv_iconst 244 hk dX12_walks_243 rfl ic_4 ?_
                              refine vv_icmp_le 262 247 hk dX12_walks_244 rfl rfl ?_ ?_
                              · skip
                                refine vv_iload 264 hk dX12_walks_262 rfl rfl ?_
                                refine vv_jn (fun t38 => (t30.2.2.2, 288, [some (rf G 86), some (.int a1), some (.int a2), some (.int a3), none, some (.int t30.1), some (.int t30.2.1), some (.int t16.2.2.1), some (.int t27.2.2.1), some (.int t30.2.2.1), none, none], [])) (fun t38 => ?_) (fun k288 hk288 => ?_)
                                · skip
                                  refine vv_aload_n (i := 0) 289 hk dX12_walks_288 rfl rfl rfl ?_
                                  refine vv_getR 292 hk dX12_walks_289 rfl la_86 rfl ci_12 rfl fl_12_153 ?_
                                  refine vv_iload 294 hk dX12_walks_292 rfl rfl ?_
                                  refine vv_dup2 295 hk dX12_walks_294 rfl rfl rfl ?_
                                  refine vv_iald 296 hk he dX12_walks_295 rfl la_134 sd_134 (fun v39 => ?_)
                                  refine vv_aload_n (i := 0) 297 hk dX12_walks_296 rfl rfl rfl ?_
                                  refine vv_getR 300 hk dX12_walks_297 rfl la_86 rfl ci_12 rfl fl_12_150 ?_
                                  refine vv_iload 302 hk dX12_walks_300 rfl rfl ?_
                                  refine vv_iald 303 hk he dX12_walks_302 rfl la_133 sd_133 (fun v40 => ?_)
                                  refine vv_iadd 304 hk dX12_walks_303 rfl ?_
                                  refine vv_iast 305 hk he dX12_walks_304 rfl la_134 sd_134 (fun σ41 => ?_)
                                  refine vv_goto 330 hk dX12_walks_305 rfl ?_
                                  exact vv_le (ll_s rfl (ll_s rfl (ll_s rfl (ll_s rfl (ll_n (ll_s rfl (ll_s rfl (ll_s rfl (ll_s rfl (ll_s rfl (ll_n (ll_n ll_0)))))))))))) (hk330 (t30.1, t30.2.1, σ41))
                                · skip
                                  refine vv_if_lt 288 267 hk dX12_walks_264 rfl rfl ?_ ?_
                                  · skip
                                    exact vv_le (ll_s rfl (ll_s rfl (ll_s rfl (ll_s rfl (ll_n (ll_s rfl (ll_s rfl (ll_s rfl (ll_s rfl (ll_s rfl (ll_n (ll_n ll_0)))))))))))) (hk288 ())
                                  · skip
                                    refine vv_iload 269 hk dX12_walks_267 rfl rfl ?_
                                    refine vv_iconst 270 hk dX12_walks_269 rfl ic_4 ?_
                                    refine vv_icmp_gt 288 273 hk dX12_walks_270 rfl rfl ?_ ?_
                                    · skip
                                      exact vv_le (ll_s rfl (ll_s rfl (ll_s rfl (ll_s rfl (ll_n (ll_s rfl (ll_s rfl (ll_s rfl (ll_s rfl (ll_s rfl (ll_n (ll_n ll_0)))))))))))) (hk288 ())
                                    · skip
                                      refine vv_aload_n (i := 0) 274 hk dX12_walks_273 rfl rfl rfl ?_
                                      refine vv_getR 277 hk dX12_walks_274 rfl la_86 rfl ci_12 rfl fl_12_147 ?_
                                      refine vv_iconst 278 hk dX12_walks_277 rfl ic_5 ?_
                                      refine vv_iload 280 hk dX12_walks_278 rfl rfl ?_
                                      refine vv_imul 281 hk dX12_walks_280 rfl ?_
                                      refine vv_iload 283 hk dX12_walks_281 rfl rfl ?_
                                      refine vv_iadd 284 hk dX12_walks_283 rfl ?_
                                      refine vv_zald 285 hk he dX12_walks_284 rfl la_132 sd_132 (fun v42 => ?_)
                                      refine vv_if_eq 308 288 hk dX12_walks_285 rfl rfl ?_ ?_
                                      · skip
                                        refine vv_aload_n (i := 0) 309 hk dX12_walks_308 rfl rfl rfl ?_
                                        refine vv_getR 312 hk dX12_walks_309 rfl la_86 rfl ci_12 rfl fl_12_153 ?_
                                        refine vv_iconst 313 hk dX12_walks_312 rfl ic_5 ?_
                                        refine vv_iload 315 hk dX12_walks_313 rfl rfl ?_
                                        refine vv_imul 316 hk dX12_walks_315 rfl ?_
                                        refine vv_iload 318 hk dX12_walks_316 rfl rfl ?_
                                        refine vv_iadd 319 hk dX12_walks_318 rfl ?_
                                        refine vv_dup2 320 hk dX12_walks_319 rfl rfl rfl ?_
                                        refine vv_iald 321 hk he dX12_walks_320 rfl la_134 sd_134 (fun v43 => ?_)
                                        refine vv_aload_n (i := 0) 322 hk dX12_walks_321 rfl rfl rfl ?_
                                        refine vv_getR 325 hk dX12_walks_322 rfl la_86 rfl ci_12 rfl fl_12_150 ?_
                                        refine vv_iload 327 hk dX12_walks_325 rfl rfl ?_
                                        refine vv_iald 328 hk he dX12_walks_327 rfl la_133 sd_133 (fun v44 => ?_)
                                        refine vv_iadd 329 hk dX12_walks_328 rfl ?_
                                        refine vv_iast 330 hk he dX12_walks_329 rfl la_134 sd_134 (fun σ45 => ?_)
                                        exact vv_le (ll_s rfl (ll_s rfl (ll_s rfl (ll_s rfl (ll_n (ll_s rfl (ll_s rfl (ll_s rfl (ll_s rfl (ll_s rfl (ll_n (ll_n ll_0)))))))))))) (hk330 (t30.1, t30.2.1, σ45))
                                      · skip
                                        exact vv_le (ll_s rfl (ll_s rfl (ll_s rfl (ll_s rfl (ll_n (ll_s rfl (ll_s rfl (ll_s rfl (ll_s rfl (ll_s rfl (ll_n (ll_n ll_0)))))))))))) (hk288 ())
                              · skip
                                refine vv_iload 249 hk dX12_walks_247 rfl rfl ?_
                                refine vv_aload_n (i := 0) 250 hk dX12_walks_249 rfl rfl rfl ?_
                                refine vv_getR 253 hk dX12_walks_250 rfl la_86 rfl ci_12 rfl fl_12_150 ?_
                                refine vv_iload 255 hk dX12_walks_253 rfl rfl ?_
                                refine vv_iald 256 hk he dX12_walks_255 rfl la_133 sd_133 (fun v46 => ?_)
                                refine vv_iadd 257 hk dX12_walks_256 rfl ?_
                                refine vv_istoreL 259 (fun x47 => [some (rf G 86), some (.int a1), some (.int a2), some (.int a3), none, some (.int x47), some (.int t30.2.1), some (.int t16.2.2.1), some (.int t27.2.2.1), some (.int t30.2.2.1), some (.int x32), some (.int x34)]) hk dX12_walks_257 rfl rfl (fun _ => rfl) (fun x47 => ?_)
                                refine vv_goto 330 hk dX12_walks_259 rfl ?_
                                exact vv_le (ll_s rfl (ll_s rfl (ll_s rfl (ll_s rfl (ll_n (ll_s rfl (ll_s rfl (ll_s rfl (ll_s rfl (ll_s rfl (ll_n (ll_n ll_0)))))))))))) (hk330 (x47, t30.2.1, t30.2.2.2))
                            · skip
                              refine vv_iload 228 hk dX12_walks_226 rfl rfl ?_
                              refine vv_aload_n (i := 0) 229 hk dX12_walks_228 rfl rfl rfl ?_
                              refine vv_getR 232 hk dX12_walks_229 rfl la_86 rfl ci_12 rfl fl_12_150 ?_
                              refine vv_iload 234 hk dX12_walks_232 rfl rfl ?_
                              refine vv_iald 235 hk he dX12_walks_234 rfl la_133 sd_133 (fun v48 => ?_)
                              refine vv_iadd 236 hk dX12_walks_235 rfl ?_
                              refine vv_istoreL 238 (fun x49 => [some (rf G 86), some (.int a1), some (.int a2), some (.int a3), none, some (.int t30.1), some (.int x49), some (.int t16.2.2.1), some (.int t27.2.2.1), some (.int t30.2.2.1), some (.int x32), some (.int x34)]) hk dX12_walks_236 rfl rfl (fun _ => rfl) (fun x49 => ?_)
                              refine vv_goto 330 hk dX12_walks_238 rfl ?_
                              exact vv_le (ll_s rfl (ll_s rfl (ll_s rfl (ll_s rfl (ll_n (ll_s rfl (ll_s rfl (ll_s rfl (ll_s rfl (ll_s rfl (ll_n (ll_n ll_0)))))))))))) (hk330 (t30.1, x49, t30.2.2.2))
                          · skip
                            refine vv_aload_n (i := 0) 202 hk dX12_walks_201 rfl rfl rfl ?_
                            refine vv_getR 205 hk dX12_walks_202 rfl la_86 rfl ci_12 rfl fl_12_153 ?_
                            refine vv_iload 207 hk dX12_walks_205 rfl rfl ?_
                            refine vv_dup2 208 hk dX12_walks_207 rfl rfl rfl ?_
                            refine vv_iald 209 hk he dX12_walks_208 rfl la_134 sd_134 (fun v50 => ?_)
                            refine vv_aload_n (i := 0) 210 hk dX12_walks_209 rfl rfl rfl ?_
                            refine vv_getR 213 hk dX12_walks_210 rfl la_86 rfl ci_12 rfl fl_12_150 ?_
                            refine vv_iload 215 hk dX12_walks_213 rfl rfl ?_
                            refine vv_iald 216 hk he dX12_walks_215 rfl la_133 sd_133 (fun v51 => ?_)
                            refine vv_iadd 217 hk dX12_walks_216 rfl ?_
                            refine vv_iast 218 hk he dX12_walks_217 rfl la_134 sd_134 (fun σ52 => ?_)
                            refine vv_goto 330 hk dX12_walks_218 rfl ?_
                            exact vv_le (ll_s rfl (ll_s rfl (ll_s rfl (ll_s rfl (ll_n (ll_s rfl (ll_s rfl (ll_s rfl (ll_s rfl (ll_s rfl (ll_n (ll_n ll_0)))))))))))) (hk330 (t30.1, t30.2.1, σ52))
              · skip
                refine vv_lp (fun t53 => (t53.2, 124, [some (rf G 86), some (.int a1), some (.int a2), some (.int a3), none, some (.int x17), some (.int x18), some (.int t16.2.2.1), some (.int t53.1), none, none, none], [])) (fun kl124 hkl124 t53 => ?_) FU ((0 : Int32), t16.2.2.2)
                refine vv_iload 126 hk dX12_walks_124 rfl rfl ?_
                refine vv_bipush 128 hk dX12_walks_126 rfl bp_25 ?_
                refine vv_icmp_ge 145 131 hk dX12_walks_128 rfl rfl ?_ ?_
                · skip
                  exact vv_le (ll_s rfl (ll_s rfl (ll_s rfl (ll_s rfl (ll_n (ll_s rfl (ll_s rfl (ll_s rfl (ll_n (ll_n (ll_n (ll_n ll_0)))))))))))) (hk145 t53.2)
                · skip
                  refine vv_aload_n (i := 0) 132 hk dX12_walks_131 rfl rfl rfl ?_
                  refine vv_getR 135 hk dX12_walks_132 rfl la_86 rfl ci_12 rfl fl_12_153 ?_
                  refine vv_iload 137 hk dX12_walks_135 rfl rfl ?_
                  refine vv_iconst 138 hk dX12_walks_137 rfl ic_0 ?_
                  refine vv_iast 139 hk he dX12_walks_138 rfl la_134 sd_134 (fun σ54 => ?_)
                  refine vv_iinc 142 (fun x55 => [some (rf G 86), some (.int a1), some (.int a2), some (.int a3), none, some (.int x17), some (.int x18), some (.int t16.2.2.1), some (.int x55), none, none, none]) hk dX12_walks_139 rfl rfl ic_1 (fun _ => rfl) (fun x55 => ?_)
                  refine vv_goto 124 hk dX12_walks_142 rfl ?_
                  exact vv_le (ll_s rfl (ll_s rfl (ll_s rfl (ll_s rfl (ll_n (ll_s rfl (ll_s rfl (ll_s rfl (ll_s rfl (ll_n (ll_n (ll_n ll_0)))))))))))) (hkl124 (x55, σ54))
        · skip
          refine vv_le (L' := [some (rf G 86), some (.int a1), some (.int a2), some (.int a3), none, some (.int (0 : Int32)), some (.int (0 : Int32)), some (.int (0 : Int32)), none, none, none, none]) (ll_s rfl (ll_s rfl (ll_s rfl (ll_s rfl (ll_n (ll_s rfl (ll_s rfl (ll_s rfl (ll_n (ll_n (ll_n (ll_n ll_0)))))))))))) ?_
          refine vv_lp (fun t56 => (t56.2, 69, [some (rf G 86), some (.int a1), some (.int a2), some (.int a3), none, some (.int (0 : Int32)), some (.int (0 : Int32)), some (.int t56.1), none, none, none, none], [])) (fun kl69 hkl69 t56 => ?_) FU ((0 : Int32), σ)
          refine vv_iload 71 hk dX12_walks_69 rfl rfl ?_
          refine vv_bipush 73 hk dX12_walks_71 rfl bp_25 ?_
          refine vv_icmp_ge 100 76 hk dX12_walks_73 rfl rfl ?_ ?_
          · skip
            exact vv_le (ll_s rfl (ll_s rfl (ll_s rfl (ll_s rfl (ll_n (ll_s rfl (ll_s rfl (ll_n (ll_n (ll_n (ll_n (ll_n ll_0)))))))))))) (hk100 t56.2)
          · skip
            refine vv_aload_n (i := 0) 77 hk dX12_walks_76 rfl rfl rfl ?_
            refine vv_getR 80 hk dX12_walks_77 rfl la_86 rfl ci_12 rfl fl_12_150 ?_
            refine vv_iload 82 hk dX12_walks_80 rfl rfl ?_
            refine vv_iload 84 hk dX12_walks_82 rfl rfl ?_
            refine vv_iload_n (i := 1) 85 hk dX12_walks_84 rfl rfl rfl ?_
            refine vv_jn (fun t57 => (t56.2, 93, [some (rf G 86), some (.int a1), some (.int a2), some (.int a3), none, some (.int (0 : Int32)), some (.int (0 : Int32)), some (.int t56.1), none, none, none, none], [(.int t57), (.int t56.1), (rf G 133)])) (fun t57 => ?_) (fun k93 hk93 => ?_)
            · skip
              refine vv_iast 94 hk he dX12_walks_93 rfl la_133 sd_133 (fun σ58 => ?_)
              refine vv_iinc 97 (fun x59 => [some (rf G 86), some (.int a1), some (.int a2), some (.int a3), none, some (.int (0 : Int32)), some (.int (0 : Int32)), some (.int x59), none, none, none, none]) hk dX12_walks_94 rfl rfl ic_1 (fun _ => rfl) (fun x59 => ?_)
              refine vv_goto 69 hk dX12_walks_97 rfl ?_
              exact vv_le (ll_s rfl (ll_s rfl (ll_s rfl (ll_s rfl (ll_n (ll_s rfl (ll_s rfl (ll_s rfl (ll_n (ll_n (ll_n (ll_n ll_0)))))))))))) (hkl69 (x59, σ58))
            · skip
              refine vv_icmp_ne 92 88 hk dX12_walks_85 rfl rfl ?_ ?_
              · skip
                refine vv_iconst 89 hk dX12_walks_88 rfl ic_1 ?_
                refine vv_goto 93 hk dX12_walks_89 rfl ?_
                exact vv_le (ll_s rfl (ll_s rfl (ll_s rfl (ll_s rfl (ll_n (ll_s rfl (ll_s rfl (ll_s rfl (ll_n (ll_n (ll_n (ll_n ll_0)))))))))))) (hk93 (1 : Int32))
              · skip
                refine vv_iconst 93 hk dX12_walks_92 rfl ic_0 ?_
                exact vv_le (ll_s rfl (ll_s rfl (ll_s rfl (ll_s rfl (ll_n (ll_s rfl (ll_s rfl (ll_s rfl (ll_n (ll_n (ll_n (ll_n ll_0)))))))))))) (hk93 (0 : Int32))
      · skip
        refine vv_aload_n (i := 0) 54 hk dX12_walks_53 rfl rfl rfl ?_
        refine vv_iload 56 hk dX12_walks_54 rfl rfl ?_
        refine vv_invI (st := []) 59 hk he dX12_walks_56 rfl ml_12_226 cf_X12_no la_86 ci_12 (c_X12_no G v7 σ) rfl rfl rfl rfl (fun v60 σ61 => ?_)
        exact hret _ _ _ _ dX12_walks_59
theorem c_X12_warm (G : GT) (a1 : Int32) (a2 : Int32) (σ : Hp) : CtI G false yX12_warm cX12_warm 5 (some .int) 1 [(rf G 86), (.int a1), (.int a2)] (f_X12_warm a1 a2 σ) σ := by
  refine ctI (L0 := [some (rf G 86), some (.int a1), some (.int a2), none, none]) (by decide +kernel) rfl rfl rfl (fun κ hk he hret => ?_)
  have hk : KO G κ cX12_warm RX12 1 := hk
  refine vv_aload_n (i := 0) 1 hk dX12_warm_0 rfl rfl rfl ?_
  refine vv_iload_n (i := 1) 2 hk dX12_warm_1 rfl rfl rfl ?_
  refine vv_invIr (st := []) 5 hk he dX12_warm_2 rfl ml_12_238 cf_X12_isRoom la_86 ci_12 (c_X12_isRoom G a1 σ) rfl rfl rfl rfl (fun v1 => ?_)
  refine vv_if_ne 14 8 hk dX12_warm_5 rfl rfl ?_ ?_
  · skip
    refine vv_aload_n (i := 0) 9 hk dX12_warm_8 rfl rfl rfl ?_
    refine vv_iconst 10 hk dX12_warm_9 rfl ic_m1 ?_
    refine vv_invI (st := []) 13 hk he dX12_warm_10 rfl ml_12_226 cf_X12_no la_86 ci_12 (c_X12_no G (-1 : Int32) σ) rfl rfl rfl rfl (fun v2 σ3 => ?_)
    exact hret _ _ _ _ dX12_warm_13
  · skip
    refine vv_iload_n (i := 2) 15 hk dX12_warm_14 rfl rfl rfl ?_
    refine vv_i2l 16 hk dX12_warm_15 rfl ?_
    refine vv_lconst 17 hk dX12_warm_16 rfl lc_0 ?_
    refine vv_ldc2 20 hk dX12_warm_17 rfl cw_12_242 ?_
    refine vv_staIr (st := []) 23 hk he dX12_warm_20 rfl ml_12_232 sf_X12_out (c_X12_out G a2.toInt64 (0 : Int64) (9 : Int64) σ) rfl rfl rfl rfl (fun v4 => ?_)
    refine vv_istore_n (i := 3) 24 [some (rf G 86), some (.int a1), some (.int a2), some (.int v4), none] hk dX12_warm_23 rfl rfl rfl rfl ?_
    refine vv_iload_n (i := 3) 25 hk dX12_warm_24 rfl rfl rfl ?_
    refine vv_if_eq 34 28 hk dX12_warm_25 rfl rfl ?_ ?_
    · skip
      refine vv_aload_n (i := 0) 35 hk dX12_warm_34 rfl rfl rfl ?_
      refine vv_invV (st := []) 38 hk he dX12_warm_35 rfl ml_12_235 cf_X12_forgets la_86 ci_12 (c_X12_forgets G σ) rfl rfl rfl rfl (fun σ5 => ?_)
      refine vv_aload_n (i := 0) 39 hk dX12_warm_38 rfl rfl rfl ?_
      refine vv_getR 42 hk dX12_warm_39 rfl la_86 rfl ci_12 rfl fl_12_19 ?_
      refine vv_iload_n (i := 1) 43 hk dX12_warm_42 rfl rfl rfl ?_
      refine vv_iald 44 hk he dX12_warm_43 rfl la_90 sd_90 (fun v6 => ?_)
      refine vv_istore 46 [some (rf G 86), some (.int a1), some (.int a2), some (.int v4), some (.int v6)] hk dX12_warm_44 rfl rfl rfl ?_
      refine vv_aload_n (i := 0) 47 hk dX12_warm_46 rfl rfl rfl ?_
      refine vv_getR 50 hk dX12_warm_47 rfl la_86 rfl ci_12 rfl fl_12_19 ?_
      refine vv_iload_n (i := 1) 51 hk dX12_warm_50 rfl rfl rfl ?_
      refine vv_iload_n (i := 2) 52 hk dX12_warm_51 rfl rfl rfl ?_
      refine vv_iast 53 hk he dX12_warm_52 rfl la_90 sd_90 (fun σ7 => ?_)
      refine vv_iload 55 hk dX12_warm_53 rfl rfl ?_
      exact hret _ _ _ _ dX12_warm_55
    · skip
      refine vv_aload_n (i := 0) 29 hk dX12_warm_28 rfl rfl rfl ?_
      refine vv_iload_n (i := 3) 30 hk dX12_warm_29 rfl rfl rfl ?_
      refine vv_invI (st := []) 33 hk he dX12_warm_30 rfl ml_12_226 cf_X12_no la_86 ci_12 (c_X12_no G v4 σ) rfl rfl rfl rfl (fun v8 σ9 => ?_)
      exact hret _ _ _ _ dX12_warm_33
theorem c_X12_warmUp (G : GT) (a1 : Int32) (σ : Hp) : CtI G false yX12_warmUp cX12_warmUp 2 (some .int) 2 [(rf G 86), (.int a1)] (f_X12_warmUp a1 σ) σ := by
  refine ctI (L0 := [some (rf G 86), some (.int a1)]) (by decide +kernel) rfl rfl rfl (fun κ hk he hret => ?_)
  have hk : KO G κ cX12_warmUp RX12 2 := hk
  refine vv_aload_n (i := 0) 1 hk dX12_warmUp_0 rfl rfl rfl ?_
  refine vv_iload_n (i := 1) 2 hk dX12_warmUp_1 rfl rfl rfl ?_
  refine vv_invIr (st := []) 5 hk he dX12_warmUp_2 rfl ml_12_295 cf_X12_isPump la_86 ci_12 (c_X12_isPump G a1 σ) rfl rfl rfl rfl (fun v1 => ?_)
  refine vv_if_ne 14 8 hk dX12_warmUp_5 rfl rfl ?_ ?_
  · skip
    refine vv_aload_n (i := 0) 9 hk dX12_warmUp_8 rfl rfl rfl ?_
    refine vv_iconst 10 hk dX12_warmUp_9 rfl ic_m1 ?_
    refine vv_invI (st := []) 13 hk he dX12_warmUp_10 rfl ml_12_226 cf_X12_no la_86 ci_12 (c_X12_no G (-1 : Int32) σ) rfl rfl rfl rfl (fun v2 σ3 => ?_)
    exact hret _ _ _ _ dX12_warmUp_13
  · skip
    refine vv_aload_n (i := 0) 15 hk dX12_warmUp_14 rfl rfl rfl ?_
    refine vv_getR 18 hk dX12_warmUp_15 rfl la_86 rfl ci_12 rfl fl_12_40 ?_
    refine vv_iload_n (i := 1) 19 hk dX12_warmUp_18 rfl rfl rfl ?_
    refine vv_iald 20 hk he dX12_warmUp_19 rfl la_97 sd_97 (fun v4 => ?_)
    refine vv_if_ne 30 23 hk dX12_warmUp_20 rfl rfl ?_ ?_
    · skip
      refine vv_aload_n (i := 0) 24 hk dX12_warmUp_23 rfl rfl rfl ?_
      refine vv_bipush 26 hk dX12_warmUp_24 rfl bp_m3 ?_
      refine vv_invI (st := []) 29 hk he dX12_warmUp_26 rfl ml_12_226 cf_X12_no la_86 ci_12 (c_X12_no G (-3 : Int32) σ) rfl rfl rfl rfl (fun v5 σ6 => ?_)
      exact hret _ _ _ _ dX12_warmUp_29
    · skip
      refine vv_aload_n (i := 0) 31 hk dX12_warmUp_30 rfl rfl rfl ?_
      refine vv_getR 34 hk dX12_warmUp_31 rfl la_86 rfl ci_12 rfl fl_12_68 ?_
      refine vv_iload_n (i := 1) 35 hk dX12_warmUp_34 rfl rfl rfl ?_
      refine vv_zald 36 hk he dX12_warmUp_35 rfl la_106 sd_106 (fun v7 => ?_)
      refine vv_jn (fun t8 => (t8.2, 50, [some (rf G 86), none], [(.int t8.1)])) (fun t8 => ?_) (fun k50 hk50 => ?_)
      · skip
        exact hret _ _ _ _ dX12_warmUp_50
      · skip
        refine vv_if_eq 43 39 hk dX12_warmUp_36 rfl rfl ?_ ?_
        · skip
          refine vv_aload_n (i := 0) 44 hk dX12_warmUp_43 rfl rfl rfl ?_
          refine vv_iconst 45 hk dX12_warmUp_44 rfl ic_2 ?_
          refine vv_iload_n (i := 1) 46 hk dX12_warmUp_45 rfl rfl rfl ?_
          refine vv_iconst 47 hk dX12_warmUp_46 rfl ic_2 ?_
          refine vv_invI (st := []) 50 hk he dX12_warmUp_47 rfl ml_12_388 cf_X12_acts la_86 ci_12 (c_X12_acts G (2 : Int32) a1 (2 : Int32) σ) rfl rfl rfl rfl (fun v9 σ10 => ?_)
          exact vv_le (ll_s rfl (ll_n ll_0)) (hk50 (v9, σ10))
        · skip
          refine vv_iconst 40 hk dX12_warmUp_39 rfl ic_0 ?_
          refine vv_goto 50 hk dX12_warmUp_40 rfl ?_
          exact vv_le (ll_s rfl (ll_n ll_0)) (hk50 ((0 : Int32), σ))
theorem c_X12_when (G : GT) (a1 : Int32) (a2 : Int32) (a3 : Int32) (σ : Hp) : CtI G false yX12_when cX12_when 8 (some .int) 3 [(rf G 86), (.int a1), (.int a2), (.int a3)] (f_X12_when a1 a2 a3 σ) σ := by
  refine ctI (L0 := [some (rf G 86), some (.int a1), some (.int a2), some (.int a3), none, none, none, none]) (by decide +kernel) rfl rfl rfl (fun κ hk he hret => ?_)
  have hk : KO G κ cX12_when RX12 3 := hk
  refine vv_aload_n (i := 0) 1 hk dX12_when_0 rfl rfl rfl ?_
  refine vv_iload_n (i := 1) 2 hk dX12_when_1 rfl rfl rfl ?_
  refine vv_invIr (st := []) 5 hk he dX12_when_2 rfl ml_12_238 cf_X12_isRoom la_86 ci_12 (c_X12_isRoom G a1 σ) rfl rfl rfl rfl (fun v1 => ?_)
  refine vv_if_ne 14 8 hk dX12_when_5 rfl rfl ?_ ?_
  · skip
    refine vv_aload_n (i := 0) 9 hk dX12_when_8 rfl rfl rfl ?_
    refine vv_iconst 10 hk dX12_when_9 rfl ic_m1 ?_
    refine vv_invI (st := []) 13 hk he dX12_when_10 rfl ml_12_226 cf_X12_no la_86 ci_12 (c_X12_no G (-1 : Int32) σ) rfl rfl rfl rfl (fun v2 σ3 => ?_)
    exact hret _ _ _ _ dX12_when_13
  · skip
    refine vv_iload_n (i := 2) 15 hk dX12_when_14 rfl rfl rfl ?_
    refine vv_jn (fun t4 => (σ, 47, [some (rf G 86), some (.int a1), some (.int a2), some (.int a3), none, none, none, none], [(.int t4)])) (fun t4 => ?_) (fun k47 hk47 => ?_)
    · skip
      refine vv_istore 49 [some (rf G 86), some (.int a1), some (.int a2), some (.int a3), some (.int t4), none, none, none] hk dX12_when_47 rfl rfl rfl ?_
      refine vv_iload 51 hk dX12_when_49 rfl rfl ?_
      refine vv_if_eq 61 54 hk dX12_when_51 rfl rfl ?_ ?_
      · skip
        refine vv_aload_n (i := 0) 62 hk dX12_when_61 rfl rfl rfl ?_
        refine vv_iconst 63 hk dX12_when_62 rfl ic_1 ?_
        refine vv_invV (st := []) 66 hk he dX12_when_63 rfl ml_12_302 cf_X12_copies la_86 ci_12 (c_X12_copies G (1 : Int32) σ) rfl rfl rfl rfl (fun σ5 => ?_)
        refine vv_aload_n (i := 0) 67 hk dX12_when_66 rfl rfl rfl ?_
        refine vv_getI 70 hk he dX12_when_67 rfl la_86 rfl ci_12 rfl fl_12_280 sd_86 ?_
        refine vv_istoreL 72 (fun x6 => [some (rf G 86), some (.int a1), some (.int a2), some (.int a3), some (.int t4), some (.int x6), none, none]) hk dX12_when_70 rfl rfl (fun _ => rfl) (fun x6 => ?_)
        refine vv_bipush 74 hk dX12_when_72 rfl bp_m9 ?_
        refine vv_istore 76 [some (rf G 86), some (.int a1), some (.int a2), some (.int a3), some (.int t4), some (.int x6), some (.int (-9 : Int32)), none] hk dX12_when_74 rfl rfl rfl ?_
        refine vv_iconst 77 hk dX12_when_76 rfl ic_0 ?_
        refine vv_istore 79 [some (rf G 86), some (.int a1), some (.int a2), some (.int a3), some (.int t4), some (.int x6), some (.int (-9 : Int32)), some (.int (0 : Int32))] hk dX12_when_77 rfl rfl rfl ?_
        refine vv_jn (fun t7 => (t7.2, 125, [some (rf G 86), none, none, none, none, some (.int x6), some (.int t7.1), none], [])) (fun t7 => ?_) (fun k125 hk125 => ?_)
        · skip
          refine vv_aload_n (i := 0) 126 hk dX12_when_125 rfl rfl rfl ?_
          refine vv_iload 128 hk dX12_when_126 rfl rfl ?_
          refine vv_putI 131 hk he dX12_when_128 rfl la_86 rfl ci_12 rfl fl_12_280 sd_86 rfl rfl (fun σ8 => ?_)
          refine vv_aload_n (i := 0) 132 hk dX12_when_131 rfl rfl rfl ?_
          refine vv_iconst 133 hk dX12_when_132 rfl ic_0 ?_
          refine vv_invV (st := []) 136 hk he dX12_when_133 rfl ml_12_302 cf_X12_copies la_86 ci_12 (c_X12_copies G (0 : Int32) σ8) rfl rfl rfl rfl (fun σ9 => ?_)
          refine vv_iload 138 hk dX12_when_136 rfl rfl ?_
          exact hret _ _ _ _ dX12_when_138
        · skip
          refine vv_le (L' := [some (rf G 86), some (.int a1), some (.int a2), some (.int a3), none, some (.int x6), some (.int (-9 : Int32)), some (.int (0 : Int32))]) (ll_s rfl (ll_s rfl (ll_s rfl (ll_s rfl (ll_n (ll_s rfl (ll_s rfl (ll_s rfl ll_0)))))))) ?_
          refine vv_lp (fun t10 => (t10.2.2, 79, [some (rf G 86), some (.int a1), some (.int a2), some (.int a3), none, some (.int x6), some (.int t10.1), some (.int t10.2.1)], [])) (fun kl79 hkl79 t10 => ?_) FU ((-9 : Int32), (0 : Int32), σ5)
          refine vv_iload 81 hk dX12_when_79 rfl rfl ?_
          refine vv_iload_n (i := 3) 82 hk dX12_when_81 rfl rfl rfl ?_
          refine vv_icmp_ge 125 85 hk dX12_when_82 rfl rfl ?_ ?_
          · skip
            exact vv_le (ll_s rfl (ll_n (ll_n (ll_n (ll_n (ll_s rfl (ll_s rfl (ll_n ll_0)))))))) (hk125 (t10.1, t10.2.2))
          · skip
            refine vv_aload_n (i := 0) 86 hk dX12_when_85 rfl rfl rfl ?_
            refine vv_getI 89 hk he dX12_when_86 rfl la_86 rfl ci_12 rfl fl_12_280 sd_86 ?_
            refine vv_sipush 92 hk dX12_when_89 rfl sp_5000 ?_
            refine vv_icmp_ge 125 95 hk dX12_when_92 rfl rfl ?_ ?_
            · skip
              exact vv_le (ll_s rfl (ll_n (ll_n (ll_n (ll_n (ll_s rfl (ll_s rfl (ll_n ll_0)))))))) (hk125 (t10.1, t10.2.2))
            · skip
              refine vv_iload 97 hk dX12_when_95 rfl rfl ?_
              refine vv_if_ge 125 100 hk dX12_when_97 rfl rfl ?_ ?_
              · skip
                exact vv_le (ll_s rfl (ll_n (ll_n (ll_n (ll_n (ll_s rfl (ll_s rfl (ll_n ll_0)))))))) (hk125 (t10.1, t10.2.2))
              · skip
                refine vv_aload_n (i := 0) 101 hk dX12_when_100 rfl rfl rfl ?_
                refine vv_invV (st := []) 104 hk he dX12_when_101 rfl ml_12_283 cf_X12_passes la_86 ci_12 (c_X12_passes G t10.2.2) rfl rfl rfl rfl (fun σ11 => ?_)
                refine vv_aload_n (i := 0) 105 hk dX12_when_104 rfl rfl rfl ?_
                refine vv_iload_n (i := 1) 106 hk dX12_when_105 rfl rfl rfl ?_
                refine vv_invIr (st := []) 109 hk he dX12_when_106 rfl ml_12_292 cf_X12_push la_86 ci_12 (c_X12_push G a1 σ11) rfl rfl rfl rfl (fun v12 => ?_)
                refine vv_iload_n (i := 2) 110 hk dX12_when_109 rfl rfl rfl ?_
                refine vv_jn (fun t13 => (σ11, 119, [some (rf G 86), some (.int a1), some (.int a2), some (.int a3), none, some (.int x6), some (.int t13), some (.int t10.2.1)], [])) (fun t13 => ?_) (fun k119 hk119 => ?_)
                · skip
                  refine vv_iinc 122 (fun x14 => [some (rf G 86), some (.int a1), some (.int a2), some (.int a3), none, some (.int x6), some (.int t13), some (.int x14)]) hk dX12_when_119 rfl rfl ic_1 (fun _ => rfl) (fun x14 => ?_)
                  refine vv_goto 79 hk dX12_when_122 rfl ?_
                  exact vv_le (ll_s rfl (ll_s rfl (ll_s rfl (ll_s rfl (ll_n (ll_s rfl (ll_s rfl (ll_s rfl ll_0)))))))) (hkl79 (t13, x14, σ11))
                · skip
                  refine vv_icmp_ge 119 113 hk dX12_when_110 rfl rfl ?_ ?_
                  · skip
                    exact vv_le (ll_s rfl (ll_s rfl (ll_s rfl (ll_s rfl (ll_n (ll_s rfl (ll_s rfl (ll_s rfl ll_0)))))))) (hk119 t10.1)
                  · skip
                    refine vv_aload_n (i := 0) 114 hk dX12_when_113 rfl rfl rfl ?_
                    refine vv_getI 117 hk he dX12_when_114 rfl la_86 rfl ci_12 rfl fl_12_280 sd_86 ?_
                    refine vv_istoreL 119 (fun x15 => [some (rf G 86), some (.int a1), some (.int a2), some (.int a3), none, some (.int x6), some (.int x15), some (.int t10.2.1)]) hk dX12_when_117 rfl rfl (fun _ => rfl) (fun x15 => ?_)
                    exact vv_le (ll_s rfl (ll_s rfl (ll_s rfl (ll_s rfl (ll_n (ll_s rfl (ll_s rfl (ll_s rfl ll_0)))))))) (hk119 x15)
      · skip
        refine vv_aload_n (i := 0) 55 hk dX12_when_54 rfl rfl rfl ?_
        refine vv_iload 57 hk dX12_when_55 rfl rfl ?_
        refine vv_invI (st := []) 60 hk he dX12_when_57 rfl ml_12_226 cf_X12_no la_86 ci_12 (c_X12_no G t4 σ) rfl rfl rfl rfl (fun v16 σ17 => ?_)
        exact hret _ _ _ _ dX12_when_60
    · skip
      refine vv_jn (fun t18 => (σ, 23, [some (rf G 86), some (.int a1), some (.int a2), some (.int a3), none, none, none, none], [])) (fun t18 => ?_) (fun k23 hk23 => ?_)
      · skip
        refine vv_bipush 25 hk dX12_when_23 rfl bp_m4 ?_
        refine vv_goto 47 hk dX12_when_25 rfl ?_
        exact vv_le (ll_s rfl (ll_s rfl (ll_s rfl (ll_s rfl (ll_n (ll_n (ll_n (ll_n ll_0)))))))) (hk47 (-4 : Int32))
      · skip
        refine vv_if_lt 23 18 hk dX12_when_15 rfl rfl ?_ ?_
        · skip
          exact vv_le (ll_s rfl (ll_s rfl (ll_s rfl (ll_s rfl (ll_n (ll_n (ll_n (ll_n ll_0)))))))) (hk23 ())
        · skip
          refine vv_iload_n (i := 3) 19 hk dX12_when_18 rfl rfl rfl ?_
          refine vv_iconst 20 hk dX12_when_19 rfl ic_1 ?_
          refine vv_icmp_ge 28 23 hk dX12_when_20 rfl rfl ?_ ?_
          · skip
            refine vv_iload_n (i := 2) 29 hk dX12_when_28 rfl rfl rfl ?_
            refine vv_ldc 31 hk dX12_when_29 rfl cw_12_249 ?_
            refine vv_jn (fun t19 => (σ, 41, [some (rf G 86), some (.int a1), some (.int a2), some (.int a3), none, none, none, none], [])) (fun t19 => ?_) (fun k41 hk41 => ?_)
            · skip
              refine vv_bipush 43 hk dX12_when_41 rfl bp_m6 ?_
              refine vv_goto 47 hk dX12_when_43 rfl ?_
              exact vv_le (ll_s rfl (ll_s rfl (ll_s rfl (ll_s rfl (ll_n (ll_n (ll_n (ll_n ll_0)))))))) (hk47 (-6 : Int32))
            · skip
              refine vv_icmp_gt 41 34 hk dX12_when_31 rfl rfl ?_ ?_
              · skip
                exact vv_le (ll_s rfl (ll_s rfl (ll_s rfl (ll_s rfl (ll_n (ll_n (ll_n (ll_n ll_0)))))))) (hk41 ())
              · skip
                refine vv_iload_n (i := 3) 35 hk dX12_when_34 rfl rfl rfl ?_
                refine vv_sipush 38 hk dX12_when_35 rfl sp_300 ?_
                refine vv_icmp_le 46 41 hk dX12_when_38 rfl rfl ?_ ?_
                · skip
                  refine vv_iconst 47 hk dX12_when_46 rfl ic_0 ?_
                  exact vv_le (ll_s rfl (ll_s rfl (ll_s rfl (ll_s rfl (ll_n (ll_n (ll_n (ll_n ll_0)))))))) (hk47 (0 : Int32))
                · skip
                  exact vv_le (ll_s rfl (ll_s rfl (ll_s rfl (ll_s rfl (ll_n (ll_n (ll_n (ll_n ll_0)))))))) (hk41 ())
          · skip
            exact vv_le (ll_s rfl (ll_s rfl (ll_s rfl (ll_s rfl (ll_n (ll_n (ll_n (ll_n ll_0)))))))) (hk23 ())
