set_option maxHeartbeats 4000000
set_option maxRecDepth 100000
theorem c_X11_within (G : GT) (a1 : Int32) (a2 : Int32) (σ : Hp) : CtI G true yX11_within cX11_within 2 (some .boolean) 0 [(.int a1), (.int a2)] (rdI (f_X11_within a1 a2) σ) σ := by
  refine ctZr (L0 := [some (.int a1), some (.int a2)]) (by decide +kernel) rfl rfl rfl (fun κ hk he hret => ?_)
  have hk : KO G κ cX11_within RX11 0 := hk
  refine vv_iload_n (i := 0) 1 hk dX11_within_0 rfl rfl rfl ?_
  refine vv_jn (fun t1 => (σ, 14, [none, none], [(.int t1)])) (fun t1 => ?_) (fun k14 hk14 => ?_)
  · skip
    exact hret _ _ _ dX11_within_14
  · skip
    refine vv_jn (fun t2 => (σ, 13, [none, none], [])) (fun t2 => ?_) (fun k13 hk13 => ?_)
    · skip
      refine vv_iconst 14 hk dX11_within_13 rfl ic_0 ?_
      exact vv_le (ll_n (ll_n ll_0)) (hk14 (0 : Int32))
    · skip
      refine vv_if_lt 13 4 hk dX11_within_1 rfl rfl ?_ ?_
      · skip
        exact vv_le (ll_n (ll_n ll_0)) (hk13 ())
      · skip
        refine vv_iload_n (i := 0) 5 hk dX11_within_4 rfl rfl rfl ?_
        refine vv_iload_n (i := 1) 6 hk dX11_within_5 rfl rfl rfl ?_
        refine vv_icmp_ge 13 9 hk dX11_within_6 rfl rfl ?_ ?_
        · skip
          exact vv_le (ll_n (ll_n ll_0)) (hk13 ())
        · skip
          refine vv_iconst 10 hk dX11_within_9 rfl ic_1 ?_
          refine vv_goto 14 hk dX11_within_10 rfl ?_
          exact vv_le (ll_n (ll_n ll_0)) (hk14 (1 : Int32))
theorem c_X4_amount_13 (G : GT) (a1 : Int32) (a2 : Int32) (a3 : Int32) (σ : Hp) : CtI G true yX4_amount cX4_amount 4 (some .int) 0 [(rf G 13), (.int a1), (.int a2), (.int a3)] (rdI (f_X4_amount 13 a1 a2 a3 σ) σ) σ := by
  refine ctIr (L0 := [some (rf G 13), some (.int a1), some (.int a2), some (.int a3)]) (by decide +kernel) rfl rfl rfl (fun κ hk he hret => ?_)
  have hk : KO G κ cX4_amount RX4 0 := hk
  refine vv_iload_n (i := 3) 1 hk dX4_amount_0 rfl rfl rfl ?_
  refine vv_jn (fun t1 => (σ, 27, [some (rf G 13), none, none, none], [(.int t1)])) (fun t1 => ?_) (fun k27 hk27 => ?_)
  · skip
    exact hret _ _ _ dX4_amount_27
  · skip
    refine vv_if_eq 17 4 hk dX4_amount_1 rfl rfl ?_ ?_
    · skip
      refine vv_aload_n (i := 0) 18 hk dX4_amount_17 rfl rfl rfl ?_
      refine vv_getR 21 hk dX4_amount_18 rfl la_13 rfl ci_4 rfl fl_4_9 ?_
      refine vv_iload_n (i := 1) 22 hk dX4_amount_21 rfl rfl rfl ?_
      refine vv_iconst 23 hk dX4_amount_22 rfl ic_3 ?_
      refine vv_imul 24 hk dX4_amount_23 rfl ?_
      refine vv_iload_n (i := 2) 25 hk dX4_amount_24 rfl rfl rfl ?_
      refine vv_iadd 26 hk dX4_amount_25 rfl ?_
      refine vv_iald 27 hk he dX4_amount_26 rfl la_14 sd_14 (fun v2 => ?_)
      exact vv_le (ll_s rfl (ll_n (ll_n (ll_n ll_0)))) (hk27 v2)
    · skip
      refine vv_aload_n (i := 0) 5 hk dX4_amount_4 rfl rfl rfl ?_
      refine vv_getR 8 hk dX4_amount_5 rfl la_13 rfl ci_4 rfl fl_4_15 ?_
      refine vv_iload_n (i := 1) 9 hk dX4_amount_8 rfl rfl rfl ?_
      refine vv_iconst 10 hk dX4_amount_9 rfl ic_3 ?_
      refine vv_imul 11 hk dX4_amount_10 rfl ?_
      refine vv_iload_n (i := 2) 12 hk dX4_amount_11 rfl rfl rfl ?_
      refine vv_iadd 13 hk dX4_amount_12 rfl ?_
      refine vv_iald 14 hk he dX4_amount_13 rfl la_15 sd_15 (fun v3 => ?_)
      refine vv_goto 27 hk dX4_amount_14 rfl ?_
      exact vv_le (ll_s rfl (ll_n (ll_n (ll_n ll_0)))) (hk27 v3)
theorem c_X4_total_13 (G : GT) (a1 : Int32) (a2 : Int32) (σ : Hp) : CtI G true yX4_total cX4_total 7 (some .int) 1 [(rf G 13), (rf G 1), (.int a1), (.int a2)] (rdI (f_X4_total 13 a1 a2 σ) σ) σ := by
  refine ctIr (L0 := [some (rf G 13), some (rf G 1), some (.int a1), some (.int a2), none, none, none]) (by decide +kernel) rfl rfl rfl (fun κ hk he hret => ?_)
  have hk : KO G κ cX4_total RX4 1 := hk
  refine vv_iload_n (i := 3) 1 hk dX4_total_0 rfl rfl rfl ?_
  refine vv_if_ne 11 4 hk dX4_total_1 rfl rfl ?_ ?_
  · skip
    refine vv_aload_n (i := 0) 5 hk dX4_total_4 rfl rfl rfl ?_
    refine vv_getR 8 hk dX4_total_5 rfl la_13 rfl ci_4 rfl fl_4_21 ?_
    refine vv_iload_n (i := 2) 9 hk dX4_total_8 rfl rfl rfl ?_
    refine vv_iald 10 hk he dX4_total_9 rfl la_17 sd_17 (fun v1 => ?_)
    exact hret _ _ _ dX4_total_10
  · skip
    refine vv_iconst 12 hk dX4_total_11 rfl ic_0 ?_
    refine vv_istore 14 [some (rf G 13), some (rf G 1), some (.int a1), some (.int a2), some (.int (0 : Int32)), none, none] hk dX4_total_12 rfl rfl rfl ?_
    refine vv_iload_n (i := 3) 15 hk dX4_total_14 rfl rfl rfl ?_
    refine vv_iconst 16 hk dX4_total_15 rfl ic_2 ?_
    refine vv_jn (fun t2 => (σ, 24, [some (rf G 13), some (rf G 1), some (.int a1), some (.int a2), some (.int (0 : Int32)), none, none], [])) (fun t2 => ?_) (fun k24 hk24 => ?_)
    · skip
      refine vv_iconst 25 hk dX4_total_24 rfl ic_0 ?_
      refine vv_istore 27 [some (rf G 13), some (rf G 1), some (.int a1), some (.int a2), some (.int (0 : Int32)), some (.int (0 : Int32)), none] hk dX4_total_25 rfl rfl rfl ?_
      refine vv_lp (fun t3 => (σ, 27, [some (rf G 13), some (rf G 1), some (.int a1), some (.int a2), some (.int t3.1), some (.int t3.2), none], [])) (fun kl27 hkl27 t3 => ?_) FU ((0 : Int32), (0 : Int32))
      refine vv_iload 29 hk dX4_total_27 rfl rfl ?_
      refine vv_aload_n (i := 1) 30 hk dX4_total_29 rfl rfl rfl ?_
      refine vv_getI 33 hk he dX4_total_30 rfl la_1 rfl ci_5 rfl fl_4_56 sd_1 ?_
      refine vv_icmp_ge 64 36 hk dX4_total_33 rfl rfl ?_ ?_
      · skip
        refine vv_iload 66 hk dX4_total_64 rfl rfl ?_
        exact hret _ _ _ dX4_total_66
      · skip
        refine vv_iload 38 hk dX4_total_36 rfl rfl ?_
        refine vv_aload_n (i := 0) 39 hk dX4_total_38 rfl rfl rfl ?_
        refine vv_iload 41 hk dX4_total_39 rfl rfl ?_
        refine vv_iload_n (i := 2) 42 hk dX4_total_41 rfl rfl rfl ?_
        refine vv_iload_n (i := 3) 43 hk dX4_total_42 rfl rfl rfl ?_
        refine vv_iconst 44 hk dX4_total_43 rfl ic_3 ?_
        refine vv_jn (fun t4 => (σ, 52, [some (rf G 13), some (rf G 1), some (.int a1), some (.int a2), none, some (.int t3.2), none], [(.int t4), (.int a1), (.int t3.2), (rf G 13), (.int t3.1)])) (fun t4 => ?_) (fun k52 hk52 => ?_)
        · skip
          refine vv_invIr (st := [(.int t3.1)]) 55 hk he dX4_total_52 rfl ml_4_59 cf_X4_amount la_13 ci_4 (c_X4_amount_13 G t3.2 a1 t4 σ) rfl rfl rfl rfl (fun v5 => ?_)
          refine vv_iadd 56 hk dX4_total_55 rfl ?_
          refine vv_istoreL 58 (fun x6 => [some (rf G 13), some (rf G 1), some (.int a1), some (.int a2), some (.int x6), some (.int t3.2), none]) hk dX4_total_56 rfl rfl (fun _ => rfl) (fun x6 => ?_)
          refine vv_iinc 61 (fun x7 => [some (rf G 13), some (rf G 1), some (.int a1), some (.int a2), some (.int x6), some (.int x7), none]) hk dX4_total_58 rfl rfl ic_1 (fun _ => rfl) (fun x7 => ?_)
          refine vv_goto 27 hk dX4_total_61 rfl ?_
          exact vv_le (ll_s rfl (ll_s rfl (ll_s rfl (ll_s rfl (ll_s rfl (ll_s rfl (ll_n ll_0))))))) (hkl27 (x6, x7))
        · skip
          refine vv_icmp_ne 51 47 hk dX4_total_44 rfl rfl ?_ ?_
          · skip
            refine vv_iconst 48 hk dX4_total_47 rfl ic_1 ?_
            refine vv_goto 52 hk dX4_total_48 rfl ?_
            exact vv_le (ll_s rfl (ll_s rfl (ll_s rfl (ll_s rfl (ll_n (ll_s rfl (ll_n ll_0))))))) (hk52 (1 : Int32))
          · skip
            refine vv_iconst 52 hk dX4_total_51 rfl ic_0 ?_
            exact vv_le (ll_s rfl (ll_s rfl (ll_s rfl (ll_s rfl (ll_n (ll_s rfl (ll_n ll_0))))))) (hk52 (0 : Int32))
    · skip
      refine vv_icmp_eq 24 19 hk dX4_total_16 rfl rfl ?_ ?_
      · skip
        exact vv_le (ll_s rfl (ll_s rfl (ll_s rfl (ll_s rfl (ll_s rfl (ll_n (ll_n ll_0))))))) (hk24 ())
      · skip
        refine vv_iload_n (i := 3) 20 hk dX4_total_19 rfl rfl rfl ?_
        refine vv_iconst 21 hk dX4_total_20 rfl ic_3 ?_
        refine vv_icmp_ne 67 24 hk dX4_total_21 rfl rfl ?_ ?_
        · skip
          exact vv_le (ll_s rfl (ll_s rfl (ll_s rfl (ll_s rfl (ll_s rfl (ll_n (ll_n ll_0))))))) (hk24 ())
        · skip
          refine vv_iconst 68 hk dX4_total_67 rfl ic_0 ?_
          refine vv_istore 70 [some (rf G 13), some (rf G 1), some (.int a1), some (.int a2), some (.int (0 : Int32)), some (.int (0 : Int32)), none] hk dX4_total_68 rfl rfl rfl ?_
          refine vv_lp (fun t8 => (σ, 70, [some (rf G 13), some (rf G 1), some (.int a1), some (.int a2), some (.int t8.1), some (.int t8.2), none], [])) (fun kl70 hkl70 t8 => ?_) FU ((0 : Int32), (0 : Int32))
          refine vv_iload 72 hk dX4_total_70 rfl rfl ?_
          refine vv_aload_n (i := 1) 73 hk dX4_total_72 rfl rfl rfl ?_
          refine vv_getI 76 hk he dX4_total_73 rfl la_1 rfl ci_5 rfl fl_4_63 sd_1 ?_
          refine vv_icmp_ge 137 79 hk dX4_total_76 rfl rfl ?_ ?_
          · skip
            refine vv_iload 139 hk dX4_total_137 rfl rfl ?_
            exact hret _ _ _ dX4_total_139
          · skip
            refine vv_aload_n (i := 1) 80 hk dX4_total_79 rfl rfl rfl ?_
            refine vv_getR 83 hk dX4_total_80 rfl la_1 rfl ci_5 rfl fl_4_66 ?_
            refine vv_iload 85 hk dX4_total_83 rfl rfl ?_
            refine vv_iald 86 hk he dX4_total_85 rfl la_12 sd_12 (fun v9 => ?_)
            refine vv_jn (fun t10 => (σ, 94, [some (rf G 13), some (rf G 1), some (.int a1), some (.int a2), some (.int t8.1), some (.int t8.2), none], [(.int t10)])) (fun t10 => ?_) (fun k94 hk94 => ?_)
            · skip
              refine vv_istore 96 [some (rf G 13), some (rf G 1), some (.int a1), some (.int a2), some (.int t8.1), some (.int t8.2), some (.int t10)] hk dX4_total_94 rfl rfl rfl ?_
              refine vv_iload 98 hk dX4_total_96 rfl rfl ?_
              refine vv_iload 100 hk dX4_total_98 rfl rfl ?_
              refine vv_iload_n (i := 3) 101 hk dX4_total_100 rfl rfl rfl ?_
              refine vv_iconst 102 hk dX4_total_101 rfl ic_4 ?_
              refine vv_jn (fun t11 => (σ, 110, [some (rf G 13), some (rf G 1), some (.int a1), some (.int a2), none, some (.int t8.2), none], [(.int t11), (.int t10), (.int t8.1)])) (fun t11 => ?_) (fun k110 hk110 => ?_)
              · skip
                refine vv_jn (fun t12 => (σ, 128, [some (rf G 13), some (rf G 1), some (.int a1), some (.int a2), none, some (.int t8.2), none], [(.int t12), (.int t8.1)])) (fun t12 => ?_) (fun k128 hk128 => ?_)
                · skip
                  refine vv_iadd 129 hk dX4_total_128 rfl ?_
                  refine vv_istoreL 131 (fun x13 => [some (rf G 13), some (rf G 1), some (.int a1), some (.int a2), some (.int x13), some (.int t8.2), none]) hk dX4_total_129 rfl rfl (fun _ => rfl) (fun x13 => ?_)
                  refine vv_iinc 134 (fun x14 => [some (rf G 13), some (rf G 1), some (.int a1), some (.int a2), some (.int x13), some (.int x14), none]) hk dX4_total_131 rfl rfl ic_1 (fun _ => rfl) (fun x14 => ?_)
                  refine vv_goto 70 hk dX4_total_134 rfl ?_
                  exact vv_le (ll_s rfl (ll_s rfl (ll_s rfl (ll_s rfl (ll_s rfl (ll_s rfl (ll_n ll_0))))))) (hkl70 (x13, x14))
                · skip
                  refine vv_icmp_ne 127 113 hk dX4_total_110 rfl rfl ?_ ?_
                  · skip
                    refine vv_aload_n (i := 0) 114 hk dX4_total_113 rfl rfl rfl ?_
                    refine vv_getR 117 hk dX4_total_114 rfl la_13 rfl ci_4 rfl fl_4_18 ?_
                    refine vv_iload 119 hk dX4_total_117 rfl rfl ?_
                    refine vv_iconst 120 hk dX4_total_119 rfl ic_3 ?_
                    refine vv_imul 121 hk dX4_total_120 rfl ?_
                    refine vv_iload_n (i := 2) 122 hk dX4_total_121 rfl rfl rfl ?_
                    refine vv_iadd 123 hk dX4_total_122 rfl ?_
                    refine vv_iald 124 hk he dX4_total_123 rfl la_16 sd_16 (fun v15 => ?_)
                    refine vv_goto 128 hk dX4_total_124 rfl ?_
                    exact vv_le (ll_s rfl (ll_s rfl (ll_s rfl (ll_s rfl (ll_n (ll_s rfl (ll_n ll_0))))))) (hk128 v15)
                  · skip
                    refine vv_iconst 128 hk dX4_total_127 rfl ic_0 ?_
                    exact vv_le (ll_s rfl (ll_s rfl (ll_s rfl (ll_s rfl (ll_n (ll_s rfl (ll_n ll_0))))))) (hk128 (0 : Int32))
              · skip
                refine vv_icmp_ne 109 105 hk dX4_total_102 rfl rfl ?_ ?_
                · skip
                  refine vv_iconst 106 hk dX4_total_105 rfl ic_1 ?_
                  refine vv_goto 110 hk dX4_total_106 rfl ?_
                  exact vv_le (ll_s rfl (ll_s rfl (ll_s rfl (ll_s rfl (ll_n (ll_s rfl (ll_n ll_0))))))) (hk110 (1 : Int32))
                · skip
                  refine vv_iconst 110 hk dX4_total_109 rfl ic_0 ?_
                  exact vv_le (ll_s rfl (ll_s rfl (ll_s rfl (ll_s rfl (ll_n (ll_s rfl (ll_n ll_0))))))) (hk110 (0 : Int32))
            · skip
              refine vv_if_le 93 89 hk dX4_total_86 rfl rfl ?_ ?_
              · skip
                refine vv_iconst 94 hk dX4_total_93 rfl ic_0 ?_
                exact vv_le (ll_s rfl (ll_s rfl (ll_s rfl (ll_s rfl (ll_s rfl (ll_s rfl (ll_n ll_0))))))) (hk94 (0 : Int32))
              · skip
                refine vv_iconst 90 hk dX4_total_89 rfl ic_1 ?_
                refine vv_goto 94 hk dX4_total_90 rfl ?_
                exact vv_le (ll_s rfl (ll_s rfl (ll_s rfl (ll_s rfl (ll_s rfl (ll_s rfl (ll_n ll_0))))))) (hk94 (1 : Int32))
theorem c_J6_bitCount_0f7a4 (G : GT) (a1 : Int32) (σ : Hp) : CtI G true yJ6_bitCount_0f7a4 cJ6_bitCount_0f7a4 1 (some .int) 0 [(.int a1)] (rdI (f_J6_bitCount_0f7a4 a1) σ) σ := by
  refine ctIr (L0 := [some (.int a1)]) (by decide +kernel) rfl rfl rfl (fun κ hk he hret => ?_)
  have hk : KO G κ cJ6_bitCount_0f7a4 RJ6 0 := hk
  refine vv_iload_n (i := 0) 1 hk dJ6_bitCount_0f7a4_0 rfl rfl rfl ?_
  refine vv_iload_n (i := 0) 2 hk dJ6_bitCount_0f7a4_1 rfl rfl rfl ?_
  refine vv_iconst 3 hk dJ6_bitCount_0f7a4_2 rfl ic_1 ?_
  refine vv_iushr 4 hk dJ6_bitCount_0f7a4_3 rfl ?_
  refine vv_ldcw 7 hk dJ6_bitCount_0f7a4_4 rfl cw_J_265 ?_
  refine vv_iand 8 hk dJ6_bitCount_0f7a4_7 rfl ?_
  refine vv_isub 9 hk dJ6_bitCount_0f7a4_8 rfl ?_
  refine vv_istore_nL (i := 0) 10 (fun x1 => [some (.int x1)]) hk dJ6_bitCount_0f7a4_9 rfl rfl rfl (fun _ => rfl) (fun x1 => ?_)
  refine vv_iload_n (i := 0) 11 hk dJ6_bitCount_0f7a4_10 rfl rfl rfl ?_
  refine vv_ldcw 14 hk dJ6_bitCount_0f7a4_11 rfl cw_J_266 ?_
  refine vv_iand 15 hk dJ6_bitCount_0f7a4_14 rfl ?_
  refine vv_iload_n (i := 0) 16 hk dJ6_bitCount_0f7a4_15 rfl rfl rfl ?_
  refine vv_iconst 17 hk dJ6_bitCount_0f7a4_16 rfl ic_2 ?_
  refine vv_iushr 18 hk dJ6_bitCount_0f7a4_17 rfl ?_
  refine vv_ldcw 21 hk dJ6_bitCount_0f7a4_18 rfl cw_J_266 ?_
  refine vv_iand 22 hk dJ6_bitCount_0f7a4_21 rfl ?_
  refine vv_iadd 23 hk dJ6_bitCount_0f7a4_22 rfl ?_
  refine vv_istore_nL (i := 0) 24 (fun x2 => [some (.int x2)]) hk dJ6_bitCount_0f7a4_23 rfl rfl rfl (fun _ => rfl) (fun x2 => ?_)
  refine vv_iload_n (i := 0) 25 hk dJ6_bitCount_0f7a4_24 rfl rfl rfl ?_
  refine vv_iload_n (i := 0) 26 hk dJ6_bitCount_0f7a4_25 rfl rfl rfl ?_
  refine vv_iconst 27 hk dJ6_bitCount_0f7a4_26 rfl ic_4 ?_
  refine vv_iushr 28 hk dJ6_bitCount_0f7a4_27 rfl ?_
  refine vv_iadd 29 hk dJ6_bitCount_0f7a4_28 rfl ?_
  refine vv_ldcw 32 hk dJ6_bitCount_0f7a4_29 rfl cw_J_267 ?_
  refine vv_iand 33 hk dJ6_bitCount_0f7a4_32 rfl ?_
  refine vv_istore_nL (i := 0) 34 (fun x3 => [some (.int x3)]) hk dJ6_bitCount_0f7a4_33 rfl rfl rfl (fun _ => rfl) (fun x3 => ?_)
  refine vv_iload_n (i := 0) 35 hk dJ6_bitCount_0f7a4_34 rfl rfl rfl ?_
  refine vv_iload_n (i := 0) 36 hk dJ6_bitCount_0f7a4_35 rfl rfl rfl ?_
  refine vv_bipush 38 hk dJ6_bitCount_0f7a4_36 rfl bp_8 ?_
  refine vv_iushr 39 hk dJ6_bitCount_0f7a4_38 rfl ?_
  refine vv_iadd 40 hk dJ6_bitCount_0f7a4_39 rfl ?_
  refine vv_istore_nL (i := 0) 41 (fun x4 => [some (.int x4)]) hk dJ6_bitCount_0f7a4_40 rfl rfl rfl (fun _ => rfl) (fun x4 => ?_)
  refine vv_iload_n (i := 0) 42 hk dJ6_bitCount_0f7a4_41 rfl rfl rfl ?_
  refine vv_iload_n (i := 0) 43 hk dJ6_bitCount_0f7a4_42 rfl rfl rfl ?_
  refine vv_bipush 45 hk dJ6_bitCount_0f7a4_43 rfl bp_16 ?_
  refine vv_iushr 46 hk dJ6_bitCount_0f7a4_45 rfl ?_
  refine vv_iadd 47 hk dJ6_bitCount_0f7a4_46 rfl ?_
  refine vv_istore_nL (i := 0) 48 (fun x5 => [some (.int x5)]) hk dJ6_bitCount_0f7a4_47 rfl rfl rfl (fun _ => rfl) (fun x5 => ?_)
  refine vv_iload_n (i := 0) 49 hk dJ6_bitCount_0f7a4_48 rfl rfl rfl ?_
  refine vv_bipush 51 hk dJ6_bitCount_0f7a4_49 rfl bp_63 ?_
  refine vv_iand 52 hk dJ6_bitCount_0f7a4_51 rfl ?_
  exact hret _ _ _ dJ6_bitCount_0f7a4_52
theorem c_X6_take (G : GT) (a1 : Int32) (a2 : Int64) (σ : Hp) : CtI G true yX6_take cX6_take 5 (some .int) 0 [(rf G 29), (.int a1), (.long a2)] (f_X6_take a1 a2 σ) σ := by
  refine ctI (L0 := [some (rf G 29), some (.int a1), some (.long a2), none, none]) (by decide +kernel) rfl rfl rfl (fun κ hk he hret => ?_)
  have hk : KO G κ cX6_take RX6 0 := hk
  refine vv_iconst 1 hk dX6_take_0 rfl ic_0 ?_
  refine vv_istore 3 [some (rf G 29), some (.int a1), some (.long a2), none, some (.int (0 : Int32))] hk dX6_take_1 rfl rfl rfl ?_
  refine vv_lp (fun t1 => (t1.2, 3, [some (rf G 29), some (.int a1), some (.long a2), none, some (.int t1.1)], [])) (fun kl3 hkl3 t1 => ?_) FU ((0 : Int32), σ)
  refine vv_iload 5 hk dX6_take_3 rfl rfl ?_
  refine vv_iload_n (i := 1) 6 hk dX6_take_5 rfl rfl rfl ?_
  refine vv_icmp_ge 55 9 hk dX6_take_6 rfl rfl ?_ ?_
  · skip
    refine vv_aload_n (i := 0) 56 hk dX6_take_55 rfl rfl rfl ?_
    refine vv_getI 59 hk he dX6_take_56 rfl la_29 rfl ci_6 rfl fl_6_18 sd_29 ?_
    exact hret _ _ _ _ dX6_take_59
  · skip
    refine vv_aload_n (i := 0) 10 hk dX6_take_9 rfl rfl rfl ?_
    refine vv_getI 13 hk he dX6_take_10 rfl la_29 rfl ci_6 rfl fl_6_18 sd_29 ?_
    refine vv_bipush 15 hk dX6_take_13 rfl bp_40 ?_
    refine vv_icmp_ge 55 18 hk dX6_take_15 rfl rfl ?_ ?_
    · skip
      refine vv_aload_n (i := 0) 56 hk dX6_take_55 rfl rfl rfl ?_
      refine vv_getI 59 hk he dX6_take_56 rfl la_29 rfl ci_6 rfl fl_6_18 sd_29 ?_
      exact hret _ _ _ _ dX6_take_59
    · skip
      refine vv_aload_n (i := 0) 19 hk dX6_take_18 rfl rfl rfl ?_
      refine vv_getR 22 hk dX6_take_19 rfl la_29 rfl ci_6 rfl fl_6_9 ?_
      refine vv_aload_n (i := 0) 23 hk dX6_take_22 rfl rfl rfl ?_
      refine vv_getI 26 hk he dX6_take_23 rfl la_29 rfl ci_6 rfl fl_6_18 sd_29 ?_
      refine vv_lload_n (i := 2) 27 hk dX6_take_26 rfl rfl rfl ?_
      refine vv_bipush 29 hk dX6_take_27 rfl bp_8 ?_
      refine vv_iload 31 hk dX6_take_29 rfl rfl ?_
      refine vv_imul 32 hk dX6_take_31 rfl ?_
      refine vv_lushr 33 hk dX6_take_32 rfl ?_
      refine vv_ldc2 36 hk dX6_take_33 rfl cw_6_22 ?_
      refine vv_land 37 hk dX6_take_36 rfl ?_
      refine vv_l2i 38 hk dX6_take_37 rfl ?_
      refine vv_iast 39 hk he dX6_take_38 rfl la_30 sd_30 (fun σ2 => ?_)
      refine vv_aload_n (i := 0) 40 hk dX6_take_39 rfl rfl rfl ?_
      refine vv_dup 41 hk dX6_take_40 rfl rfl ?_
      refine vv_getI 44 hk he dX6_take_41 rfl la_29 rfl ci_6 rfl fl_6_18 sd_29 ?_
      refine vv_iconst 45 hk dX6_take_44 rfl ic_1 ?_
      refine vv_iadd 46 hk dX6_take_45 rfl ?_
      refine vv_putI 49 hk he dX6_take_46 rfl la_29 rfl ci_6 rfl fl_6_18 sd_29 rfl rfl (fun σ3 => ?_)
      refine vv_iinc 52 (fun x4 => [some (rf G 29), some (.int a1), some (.long a2), none, some (.int x4)]) hk dX6_take_49 rfl rfl ic_1 (fun _ => rfl) (fun x4 => ?_)
      refine vv_goto 3 hk dX6_take_52 rfl ?_
      exact vv_le (ll_s rfl (ll_s rfl (ll_s rfl (ll_n (ll_s rfl ll_0))))) (hkl3 (x4, σ3))
theorem c_X5_divisor (G : GT) (a1 : Int32) (σ : Hp) : CtJ G true yX5_divisor cX5_divisor 2 (some .long) 0 [(rf G 1), (.int a1)] (rdJ (f_X5_divisor a1 σ) σ) σ := by
  refine ctJr (L0 := [some (rf G 1), some (.int a1)]) (by decide +kernel) rfl rfl rfl (fun κ hk he hret => ?_)
  have hk : KO G κ cX5_divisor RX5 0 := hk
  refine vv_aload_n (i := 0) 1 hk dX5_divisor_0 rfl rfl rfl ?_
  refine vv_getR 4 hk dX5_divisor_1 rfl la_1 rfl ci_5 rfl fl_5_9 ?_
  refine vv_iload_n (i := 1) 5 hk dX5_divisor_4 rfl rfl rfl ?_
  refine vv_iald 6 hk he dX5_divisor_5 rfl la_2 sd_2 (fun v1 => ?_)
  refine vv_jn (fun t2 => (σ, 20, [some (rf G 1), none], [(.long t2)])) (fun t2 => ?_) (fun k20 hk20 => ?_)
  · skip
    exact hret _ _ _ dX5_divisor_20
  · skip
    refine vv_if_le 19 9 hk dX5_divisor_6 rfl rfl ?_ ?_
    · skip
      refine vv_lconst 20 hk dX5_divisor_19 rfl lc_1 ?_
      exact vv_le (ll_s rfl (ll_n ll_0)) (hk20 (1 : Int64))
    · skip
      refine vv_aload_n (i := 0) 10 hk dX5_divisor_9 rfl rfl rfl ?_
      refine vv_getR 13 hk dX5_divisor_10 rfl la_1 rfl ci_5 rfl fl_5_9 ?_
      refine vv_iload_n (i := 1) 14 hk dX5_divisor_13 rfl rfl rfl ?_
      refine vv_iald 15 hk he dX5_divisor_14 rfl la_2 sd_2 (fun v3 => ?_)
      refine vv_i2l 16 hk dX5_divisor_15 rfl ?_
      refine vv_goto 20 hk dX5_divisor_16 rfl ?_
      exact vv_le (ll_s rfl (ll_n ll_0)) (hk20 v3.toInt64)
theorem c_X4_push_13 (G : GT) (a1 : Int32) (σ : Hp) : CtI G true yX4_push cX4_push 6 (some .int) 1 [(rf G 13), (rf G 1), (.int a1)] (rdI (f_X4_push 13 a1 σ) σ) σ := by
  refine ctIr (L0 := [some (rf G 13), some (rf G 1), some (.int a1), none, none, none]) (by decide +kernel) rfl rfl rfl (fun κ hk he hret => ?_)
  have hk : KO G κ cX4_push RX4 1 := hk
  refine vv_lconst 1 hk dX4_push_0 rfl lc_0 ?_
  refine vv_lstore_n (i := 3) 2 [some (rf G 13), some (rf G 1), some (.int a1), some (.long (0 : Int64)), none, none] hk dX4_push_1 rfl rfl rfl rfl ?_
  refine vv_iconst 3 hk dX4_push_2 rfl ic_0 ?_
  refine vv_istore 5 [some (rf G 13), some (rf G 1), some (.int a1), some (.long (0 : Int64)), none, some (.int (0 : Int32))] hk dX4_push_3 rfl rfl rfl ?_
  refine vv_jn (fun t1 => (σ, 32, [some (rf G 13), some (rf G 1), some (.int a1), some (.long t1), none, none], [])) (fun t1 => ?_) (fun k32 hk32 => ?_)
  · skip
    refine vv_ldc2 35 hk dX4_push_32 rfl cw_4_40 ?_
    refine vv_lload_n (i := 3) 36 hk dX4_push_35 rfl rfl rfl ?_
    refine vv_ldc2 39 hk dX4_push_36 rfl cw_4_42 ?_
    refine vv_lmul 40 hk dX4_push_39 rfl ?_
    refine vv_aload_n (i := 1) 41 hk dX4_push_40 rfl rfl rfl ?_
    refine vv_iload_n (i := 2) 42 hk dX4_push_41 rfl rfl rfl ?_
    refine vv_invJr (st := [(.long (t1 * (100 : Int64))), (.long (2000000000 : Int64))]) 45 hk he dX4_push_42 rfl ml_4_44 cf_X5_divisor la_1 ci_5 (c_X5_divisor G a1 σ) rfl rfl rfl rfl (fun v2 => ?_)
    refine vv_ldiv 46 hk dX4_push_45 rfl ?_
    refine vv_mminL 49 hk dX4_push_46 rfl ml_4_50 rfl ?_
    refine vv_l2i 50 hk dX4_push_49 rfl ?_
    exact hret _ _ _ dX4_push_50
  · skip
    refine vv_lp (fun t3 => (σ, 5, [some (rf G 13), some (rf G 1), some (.int a1), some (.long t3.1), none, some (.int t3.2)], [])) (fun kl5 hkl5 t3 => ?_) FU ((0 : Int64), (0 : Int32))
    refine vv_iload 7 hk dX4_push_5 rfl rfl ?_
    refine vv_iconst 8 hk dX4_push_7 rfl ic_3 ?_
    refine vv_icmp_ge 32 11 hk dX4_push_8 rfl rfl ?_ ?_
    · skip
      exact vv_le (ll_s rfl (ll_s rfl (ll_s rfl (ll_s rfl (ll_n (ll_n ll_0)))))) (hk32 t3.1)
    · skip
      refine vv_lload_n (i := 3) 12 hk dX4_push_11 rfl rfl rfl ?_
      refine vv_aload_n (i := 0) 13 hk dX4_push_12 rfl rfl rfl ?_
      refine vv_getR 16 hk dX4_push_13 rfl la_13 rfl ci_4 rfl fl_4_9 ?_
      refine vv_iload_n (i := 2) 17 hk dX4_push_16 rfl rfl rfl ?_
      refine vv_iconst 18 hk dX4_push_17 rfl ic_3 ?_
      refine vv_imul 19 hk dX4_push_18 rfl ?_
      refine vv_iload 21 hk dX4_push_19 rfl rfl ?_
      refine vv_iadd 22 hk dX4_push_21 rfl ?_
      refine vv_iald 23 hk he dX4_push_22 rfl la_14 sd_14 (fun v4 => ?_)
      refine vv_i2l 24 hk dX4_push_23 rfl ?_
      refine vv_ladd 25 hk dX4_push_24 rfl ?_
      refine vv_lstore_nL (i := 3) 26 (fun x5 => [some (rf G 13), some (rf G 1), some (.int a1), some (.long x5), none, some (.int t3.2)]) hk dX4_push_25 rfl rfl rfl (fun _ => rfl) (fun x5 => ?_)
      refine vv_iinc 29 (fun x6 => [some (rf G 13), some (rf G 1), some (.int a1), some (.long x5), none, some (.int x6)]) hk dX4_push_26 rfl rfl ic_1 (fun _ => rfl) (fun x6 => ?_)
      refine vv_goto 5 hk dX4_push_29 rfl ?_
      exact vv_le (ll_s rfl (ll_s rfl (ll_s rfl (ll_s rfl (ll_n (ll_s rfl ll_0)))))) (hkl5 (x5, x6))
theorem c_X4_push_19 (G : GT) (a1 : Int32) (σ : Hp) : CtI G true yX4_push cX4_push 6 (some .int) 1 [(rf G 19), (rf G 1), (.int a1)] (rdI (f_X4_push 19 a1 σ) σ) σ := by
  refine ctIr (L0 := [some (rf G 19), some (rf G 1), some (.int a1), none, none, none]) (by decide +kernel) rfl rfl rfl (fun κ hk he hret => ?_)
  have hk : KO G κ cX4_push RX4 1 := hk
  refine vv_lconst 1 hk dX4_push_0 rfl lc_0 ?_
  refine vv_lstore_n (i := 3) 2 [some (rf G 19), some (rf G 1), some (.int a1), some (.long (0 : Int64)), none, none] hk dX4_push_1 rfl rfl rfl rfl ?_
  refine vv_iconst 3 hk dX4_push_2 rfl ic_0 ?_
  refine vv_istore 5 [some (rf G 19), some (rf G 1), some (.int a1), some (.long (0 : Int64)), none, some (.int (0 : Int32))] hk dX4_push_3 rfl rfl rfl ?_
  refine vv_jn (fun t1 => (σ, 32, [some (rf G 19), some (rf G 1), some (.int a1), some (.long t1), none, none], [])) (fun t1 => ?_) (fun k32 hk32 => ?_)
  · skip
    refine vv_ldc2 35 hk dX4_push_32 rfl cw_4_40 ?_
    refine vv_lload_n (i := 3) 36 hk dX4_push_35 rfl rfl rfl ?_
    refine vv_ldc2 39 hk dX4_push_36 rfl cw_4_42 ?_
    refine vv_lmul 40 hk dX4_push_39 rfl ?_
    refine vv_aload_n (i := 1) 41 hk dX4_push_40 rfl rfl rfl ?_
    refine vv_iload_n (i := 2) 42 hk dX4_push_41 rfl rfl rfl ?_
    refine vv_invJr (st := [(.long (t1 * (100 : Int64))), (.long (2000000000 : Int64))]) 45 hk he dX4_push_42 rfl ml_4_44 cf_X5_divisor la_1 ci_5 (c_X5_divisor G a1 σ) rfl rfl rfl rfl (fun v2 => ?_)
    refine vv_ldiv 46 hk dX4_push_45 rfl ?_
    refine vv_mminL 49 hk dX4_push_46 rfl ml_4_50 rfl ?_
    refine vv_l2i 50 hk dX4_push_49 rfl ?_
    exact hret _ _ _ dX4_push_50
  · skip
    refine vv_lp (fun t3 => (σ, 5, [some (rf G 19), some (rf G 1), some (.int a1), some (.long t3.1), none, some (.int t3.2)], [])) (fun kl5 hkl5 t3 => ?_) FU ((0 : Int64), (0 : Int32))
    refine vv_iload 7 hk dX4_push_5 rfl rfl ?_
    refine vv_iconst 8 hk dX4_push_7 rfl ic_3 ?_
    refine vv_icmp_ge 32 11 hk dX4_push_8 rfl rfl ?_ ?_
    · skip
      exact vv_le (ll_s rfl (ll_s rfl (ll_s rfl (ll_s rfl (ll_n (ll_n ll_0)))))) (hk32 t3.1)
    · skip
      refine vv_lload_n (i := 3) 12 hk dX4_push_11 rfl rfl rfl ?_
      refine vv_aload_n (i := 0) 13 hk dX4_push_12 rfl rfl rfl ?_
      refine vv_getR 16 hk dX4_push_13 rfl la_19 rfl ci_4 rfl fl_4_9 ?_
      refine vv_iload_n (i := 2) 17 hk dX4_push_16 rfl rfl rfl ?_
      refine vv_iconst 18 hk dX4_push_17 rfl ic_3 ?_
      refine vv_imul 19 hk dX4_push_18 rfl ?_
      refine vv_iload 21 hk dX4_push_19 rfl rfl ?_
      refine vv_iadd 22 hk dX4_push_21 rfl ?_
      refine vv_iald 23 hk he dX4_push_22 rfl la_20 sd_20 (fun v4 => ?_)
      refine vv_i2l 24 hk dX4_push_23 rfl ?_
      refine vv_ladd 25 hk dX4_push_24 rfl ?_
      refine vv_lstore_nL (i := 3) 26 (fun x5 => [some (rf G 19), some (rf G 1), some (.int a1), some (.long x5), none, some (.int t3.2)]) hk dX4_push_25 rfl rfl rfl (fun _ => rfl) (fun x5 => ?_)
      refine vv_iinc 29 (fun x6 => [some (rf G 19), some (rf G 1), some (.int a1), some (.long x5), none, some (.int x6)]) hk dX4_push_26 rfl rfl ic_1 (fun _ => rfl) (fun x6 => ?_)
      refine vv_goto 5 hk dX4_push_29 rfl ?_
      exact vv_le (ll_s rfl (ll_s rfl (ll_s rfl (ll_s rfl (ll_n (ll_s rfl ll_0)))))) (hkl5 (x5, x6))
theorem c_X8_compares (G : GT) (a1 : Int32) (a2 : Int32) (σ : Hp) : CtI G true yX8_compares cX8_compares 6 (some .boolean) 2 [(rf G 32), (.int a1), (.int a2)] (rdI (f_X8_compares a1 a2 σ) σ) σ := by
  refine ctZr (L0 := [some (rf G 32), some (.int a1), some (.int a2), none, none, none]) (by decide +kernel) rfl rfl rfl (fun κ hk he hret => ?_)
  have hk : KO G κ cX8_compares RX8 2 := hk
  refine vv_iload_n (i := 1) 1 hk dX8_compares_0 rfl rfl rfl ?_
  refine vv_iconst 2 hk dX8_compares_1 rfl ic_5 ?_
  refine vv_ishr 3 hk dX8_compares_2 rfl ?_
  refine vv_bipush 5 hk dX8_compares_3 rfl bp_15 ?_
  refine vv_iand 6 hk dX8_compares_5 rfl ?_
  refine vv_istore_nL (i := 3) 7 (fun x1 => [some (rf G 32), some (.int a1), some (.int a2), some (.int x1), none, none]) hk dX8_compares_6 rfl rfl rfl (fun _ => rfl) (fun x1 => ?_)
  refine vv_iconst 8 hk dX8_compares_7 rfl ic_0 ?_
  refine vv_istore 10 [some (rf G 32), some (.int a1), some (.int a2), some (.int x1), some (.int (0 : Int32)), none] hk dX8_compares_8 rfl rfl rfl ?_
  refine vv_iload_n (i := 1) 11 hk dX8_compares_10 rfl rfl rfl ?_
  refine vv_iconst 12 hk dX8_compares_11 rfl ic_2 ?_
  refine vv_ishr 13 hk dX8_compares_12 rfl ?_
  refine vv_bipush 15 hk dX8_compares_13 rfl bp_7 ?_
  refine vv_iand 16 hk dX8_compares_15 rfl ?_
  refine vv_jn (fun t2 => (σ, 144, [some (rf G 32), some (.int a1), none, none, some (.int t2), none], [])) (fun t2 => ?_) (fun k144 hk144 => ?_)
  · skip
    refine vv_iload_n (i := 1) 145 hk dX8_compares_144 rfl rfl rfl ?_
    refine vv_bipush 147 hk dX8_compares_145 rfl bp_11 ?_
    refine vv_ishr 148 hk dX8_compares_147 rfl ?_
    refine vv_istoreL 150 (fun x3 => [some (rf G 32), some (.int a1), none, none, some (.int t2), some (.int x3)]) hk dX8_compares_148 rfl rfl (fun _ => rfl) (fun x3 => ?_)
    refine vv_iload_n (i := 1) 151 hk dX8_compares_150 rfl rfl rfl ?_
    refine vv_bipush 153 hk dX8_compares_151 rfl bp_9 ?_
    refine vv_ishr 154 hk dX8_compares_153 rfl ?_
    refine vv_iconst 155 hk dX8_compares_154 rfl ic_3 ?_
    refine vv_iand 156 hk dX8_compares_155 rfl ?_
    refine vv_case (fun h0 => ?_) (fun h0 => ?_)
    · skip
      refine vv_look 184 hk dX8_compares_156 rfl (off := 28) (by rw [h0]; decide +kernel) rfl ?_
      refine vv_iload 186 hk dX8_compares_184 rfl rfl ?_
      refine vv_iload 188 hk dX8_compares_186 rfl rfl ?_
      refine vv_jn (fun t4 => (σ, 196, [some (rf G 32), none, none, none, none, none], [(.int t4)])) (fun t4 => ?_) (fun k196 hk196 => ?_)
      · skip
        exact hret _ _ _ dX8_compares_196
      · skip
        refine vv_icmp_ge 195 191 hk dX8_compares_188 rfl rfl ?_ ?_
        · skip
          refine vv_iconst 196 hk dX8_compares_195 rfl ic_0 ?_
          exact vv_le (ll_s rfl (ll_n (ll_n (ll_n (ll_n (ll_n ll_0)))))) (hk196 (0 : Int32))
        · skip
          refine vv_iconst 192 hk dX8_compares_191 rfl ic_1 ?_
          refine vv_goto 196 hk dX8_compares_192 rfl ?_
          exact vv_le (ll_s rfl (ll_n (ll_n (ll_n (ll_n (ll_n ll_0)))))) (hk196 (1 : Int32))
    · skip
      refine vv_case (fun h1 => ?_) (fun h1 => ?_)
      · skip
        refine vv_look 197 hk dX8_compares_156 rfl (off := 41) (by rw [h1]; decide +kernel) rfl ?_
        refine vv_iload 199 hk dX8_compares_197 rfl rfl ?_
        refine vv_iload 201 hk dX8_compares_199 rfl rfl ?_
        refine vv_jn (fun t5 => (σ, 209, [some (rf G 32), none, none, none, none, none], [(.int t5)])) (fun t5 => ?_) (fun k209 hk209 => ?_)
        · skip
          exact hret _ _ _ dX8_compares_209
        · skip
          refine vv_icmp_ne 208 204 hk dX8_compares_201 rfl rfl ?_ ?_
          · skip
            refine vv_iconst 205 hk dX8_compares_204 rfl ic_1 ?_
            refine vv_goto 209 hk dX8_compares_205 rfl ?_
            exact vv_le (ll_s rfl (ll_n (ll_n (ll_n (ll_n (ll_n ll_0)))))) (hk209 (1 : Int32))
          · skip
            refine vv_iconst 209 hk dX8_compares_208 rfl ic_0 ?_
            exact vv_le (ll_s rfl (ll_n (ll_n (ll_n (ll_n (ll_n ll_0)))))) (hk209 (0 : Int32))
      · skip
        refine vv_look 210 hk dX8_compares_156 rfl ((lv_osw h0 ti_0).trans ((lv_osw h1 ti_1).trans rfl)) rfl ?_
        refine vv_iload 212 hk dX8_compares_210 rfl rfl ?_
        refine vv_iload 214 hk dX8_compares_212 rfl rfl ?_
        refine vv_jn (fun t6 => (σ, 222, [some (rf G 32), none, none, none, none, none], [(.int t6)])) (fun t6 => ?_) (fun k222 hk222 => ?_)
        · skip
          exact hret _ _ _ dX8_compares_222
        · skip
          refine vv_icmp_le 221 217 hk dX8_compares_214 rfl rfl ?_ ?_
          · skip
            refine vv_iconst 222 hk dX8_compares_221 rfl ic_0 ?_
            exact vv_le (ll_s rfl (ll_n (ll_n (ll_n (ll_n (ll_n ll_0)))))) (hk222 (0 : Int32))
          · skip
            refine vv_iconst 218 hk dX8_compares_217 rfl ic_1 ?_
            refine vv_goto 222 hk dX8_compares_218 rfl ?_
            exact vv_le (ll_s rfl (ll_n (ll_n (ll_n (ll_n (ll_n ll_0)))))) (hk222 (1 : Int32))
  · skip
    refine vv_case (fun h0 => ?_) (fun h0 => ?_)
    · skip
      refine vv_tabIn 48 hk dX8_compares_16 (by rw [h0]; decide +kernel) (by rw [h0]; decide +kernel) (off := 32) (by rw [h0]; decide +kernel) rfl ?_
      refine vv_iload_n (i := 3) 49 hk dX8_compares_48 rfl rfl rfl ?_
      refine vv_aload_n (i := 0) 50 hk dX8_compares_49 rfl rfl rfl ?_
      refine vv_getR 53 hk dX8_compares_50 rfl la_32 rfl ci_8 rfl fl_8_23 ?_
      refine vv_getI 56 hk he dX8_compares_53 rfl la_1 rfl ci_5 rfl fl_8_68 sd_1 ?_
      refine vv_jn (fun t7 => (σ, 75, [some (rf G 32), some (.int a1), none, none, none, none], [(.int t7)])) (fun t7 => ?_) (fun k75 hk75 => ?_)
      · skip
        refine vv_istore 77 [some (rf G 32), some (.int a1), none, none, some (.int t7), none] hk dX8_compares_75 rfl rfl rfl ?_
        refine vv_goto 144 hk dX8_compares_77 rfl ?_
        exact vv_le (ll_s rfl (ll_s rfl (ll_n (ll_n (ll_s rfl (ll_n ll_0)))))) (hk144 t7)
      · skip
        refine vv_icmp_ge 74 59 hk dX8_compares_56 rfl rfl ?_ ?_
        · skip
          refine vv_iconst 75 hk dX8_compares_74 rfl ic_0 ?_
          exact vv_le (ll_s rfl (ll_s rfl (ll_n (ll_n (ll_n (ll_n ll_0)))))) (hk75 (0 : Int32))
        · skip
          refine vv_aload_n (i := 0) 60 hk dX8_compares_59 rfl rfl rfl ?_
          refine vv_getR 63 hk dX8_compares_60 rfl la_32 rfl ci_8 rfl fl_8_27 ?_
          refine vv_aload_n (i := 0) 64 hk dX8_compares_63 rfl rfl rfl ?_
          refine vv_getR 67 hk dX8_compares_64 rfl la_32 rfl ci_8 rfl fl_8_23 ?_
          refine vv_iload_n (i := 3) 68 hk dX8_compares_67 rfl rfl rfl ?_
          refine vv_invIr (st := []) 71 hk he dX8_compares_68 rfl ml_8_73 cf_X4_push la_13 ci_4 (c_X4_push_13 G x1 σ) rfl rfl rfl rfl (fun v8 => ?_)
          refine vv_goto 75 hk dX8_compares_71 rfl ?_
          exact vv_le (ll_s rfl (ll_s rfl (ll_n (ll_n (ll_n (ll_n ll_0)))))) (hk75 v8)
    · skip
      refine vv_case (fun h1 => ?_) (fun h1 => ?_)
      · skip
        refine vv_tabIn 80 hk dX8_compares_16 (by rw [h1]; decide +kernel) (by rw [h1]; decide +kernel) (off := 64) (by rw [h1]; decide +kernel) rfl ?_
        refine vv_iload_n (i := 3) 81 hk dX8_compares_80 rfl rfl rfl ?_
        refine vv_aload_n (i := 0) 82 hk dX8_compares_81 rfl rfl rfl ?_
        refine vv_getR 85 hk dX8_compares_82 rfl la_32 rfl ci_8 rfl fl_8_23 ?_
        refine vv_getI 88 hk he dX8_compares_85 rfl la_1 rfl ci_5 rfl fl_8_68 sd_1 ?_
        refine vv_jn (fun t9 => (σ, 104, [some (rf G 32), some (.int a1), none, none, none, none], [(.int t9)])) (fun t9 => ?_) (fun k104 hk104 => ?_)
        · skip
          refine vv_istore 106 [some (rf G 32), some (.int a1), none, none, some (.int t9), none] hk dX8_compares_104 rfl rfl rfl ?_
          refine vv_goto 144 hk dX8_compares_106 rfl ?_
          exact vv_le (ll_s rfl (ll_s rfl (ll_n (ll_n (ll_s rfl (ll_n ll_0)))))) (hk144 t9)
        · skip
          refine vv_icmp_ge 103 91 hk dX8_compares_88 rfl rfl ?_ ?_
          · skip
            refine vv_iconst 104 hk dX8_compares_103 rfl ic_0 ?_
            exact vv_le (ll_s rfl (ll_s rfl (ll_n (ll_n (ll_n (ll_n ll_0)))))) (hk104 (0 : Int32))
          · skip
            refine vv_aload_n (i := 0) 92 hk dX8_compares_91 rfl rfl rfl ?_
            refine vv_getR 95 hk dX8_compares_92 rfl la_32 rfl ci_8 rfl fl_8_23 ?_
            refine vv_getR 98 hk dX8_compares_95 rfl la_1 rfl ci_5 rfl fl_8_79 ?_
            refine vv_iload_n (i := 3) 99 hk dX8_compares_98 rfl rfl rfl ?_
            refine vv_iald 100 hk he dX8_compares_99 rfl la_4 sd_4 (fun v10 => ?_)
            refine vv_goto 104 hk dX8_compares_100 rfl ?_
            exact vv_le (ll_s rfl (ll_s rfl (ll_n (ll_n (ll_n (ll_n ll_0)))))) (hk104 v10)
      · skip
        refine vv_case (fun h2 => ?_) (fun h2 => ?_)
        · skip
          refine vv_tabIn 109 hk dX8_compares_16 (by rw [h2]; decide +kernel) (by rw [h2]; decide +kernel) (off := 93) (by rw [h2]; decide +kernel) rfl ?_
          refine vv_aload_n (i := 0) 110 hk dX8_compares_109 rfl rfl rfl ?_
          refine vv_getR 113 hk dX8_compares_110 rfl la_32 rfl ci_8 rfl fl_8_23 ?_
          refine vv_getI 116 hk he dX8_compares_113 rfl la_1 rfl ci_5 rfl fl_8_82 sd_1 ?_
          refine vv_iload_n (i := 3) 117 hk dX8_compares_116 rfl rfl rfl ?_
          refine vv_ishr 118 hk dX8_compares_117 rfl ?_
          refine vv_iconst 119 hk dX8_compares_118 rfl ic_1 ?_
          refine vv_iand 120 hk dX8_compares_119 rfl ?_
          refine vv_istoreL 122 (fun x11 => [some (rf G 32), some (.int a1), some (.int a2), some (.int x1), some (.int x11), none]) hk dX8_compares_120 rfl rfl (fun _ => rfl) (fun x11 => ?_)
          refine vv_goto 144 hk dX8_compares_122 rfl ?_
          exact vv_le (ll_s rfl (ll_s rfl (ll_n (ll_n (ll_s rfl (ll_n ll_0)))))) (hk144 x11)
        · skip
          refine vv_case (fun h3 => ?_) (fun h3 => ?_)
          · skip
            refine vv_tabIn 125 hk dX8_compares_16 (by rw [h3]; decide +kernel) (by rw [h3]; decide +kernel) (off := 109) (by rw [h3]; decide +kernel) rfl ?_
            refine vv_iload_n (i := 2) 126 hk dX8_compares_125 rfl rfl rfl ?_
            refine vv_iload_n (i := 3) 127 hk dX8_compares_126 rfl rfl rfl ?_
            refine vv_ishr 128 hk dX8_compares_127 rfl ?_
            refine vv_iconst 129 hk dX8_compares_128 rfl ic_1 ?_
            refine vv_iand 130 hk dX8_compares_129 rfl ?_
            refine vv_istoreL 132 (fun x12 => [some (rf G 32), some (.int a1), some (.int a2), some (.int x1), some (.int x12), none]) hk dX8_compares_130 rfl rfl (fun _ => rfl) (fun x12 => ?_)
            refine vv_goto 144 hk dX8_compares_132 rfl ?_
            exact vv_le (ll_s rfl (ll_s rfl (ll_n (ll_n (ll_s rfl (ll_n ll_0)))))) (hk144 x12)
          · skip
            refine vv_tabOut 135 hk dX8_compares_16 (by have q0 := ne_int h0; have q1 := ne_int h1; have q2 := ne_int h2; have q3 := ne_int h3; rw [ti_0] at q0; rw [ti_1] at q1; rw [ti_2] at q2; rw [ti_3] at q3; omega) rfl ?_
            refine vv_aload_n (i := 0) 136 hk dX8_compares_135 rfl rfl rfl ?_
            refine vv_getR 139 hk dX8_compares_136 rfl la_32 rfl ci_8 rfl fl_8_27 ?_
            refine vv_getI 142 hk he dX8_compares_139 rfl la_13 rfl ci_4 rfl fl_8_85 sd_13 ?_
            refine vv_istoreL 144 (fun x13 => [some (rf G 32), some (.int a1), some (.int a2), some (.int x1), some (.int x13), none]) hk dX8_compares_142 rfl rfl (fun _ => rfl) (fun x13 => ?_)
            exact vv_le (ll_s rfl (ll_s rfl (ll_n (ll_n (ll_s rfl (ll_n ll_0)))))) (hk144 x13)
theorem c_X8_holds (G : GT) (a1 : Int32) (a2 : Int32) (σ : Hp) : CtI G true yX8_holds cX8_holds 7 (some .boolean) 3 [(rf G 32), (.int a1), (.int a2)] (rdI (f_X8_holds a1 a2 σ) σ) σ := by
  refine ctZr (L0 := [some (rf G 32), some (.int a1), some (.int a2), none, none, none, none]) (by decide +kernel) rfl rfl rfl (fun κ hk he hret => ?_)
  have hk : KO G κ cX8_holds RX8 3 := hk
  refine vv_lconst 1 hk dX8_holds_0 rfl lc_0 ?_
  refine vv_lstore_n (i := 3) 2 [some (rf G 32), some (.int a1), some (.int a2), some (.long (0 : Int64)), none, none, none] hk dX8_holds_1 rfl rfl rfl rfl ?_
  refine vv_iconst 3 hk dX8_holds_2 rfl ic_0 ?_
  refine vv_istore 5 [some (rf G 32), some (.int a1), some (.int a2), some (.long (0 : Int64)), none, some (.int (0 : Int32)), none] hk dX8_holds_3 rfl rfl rfl ?_
  refine vv_jn (fun t1 => (σ, 122, [some (rf G 32), none, none, some (.long t1), none, none, none], [])) (fun t1 => ?_) (fun k122 hk122 => ?_)
  · skip
    refine vv_lload_n (i := 3) 123 hk dX8_holds_122 rfl rfl rfl ?_
    refine vv_lconst 124 hk dX8_holds_123 rfl lc_1 ?_
    refine vv_land 125 hk dX8_holds_124 rfl ?_
    refine vv_lconst 126 hk dX8_holds_125 rfl lc_1 ?_
    refine vv_lcmp 127 hk dX8_holds_126 rfl ?_
    refine vv_jn (fun t2 => (σ, 135, [some (rf G 32), none, none, none, none, none, none], [(.int t2)])) (fun t2 => ?_) (fun k135 hk135 => ?_)
    · skip
      exact hret _ _ _ dX8_holds_135
    · skip
      refine vv_if_ne 134 130 hk dX8_holds_127 rfl rfl ?_ ?_
      · skip
        refine vv_iconst 131 hk dX8_holds_130 rfl ic_1 ?_
        refine vv_goto 135 hk dX8_holds_131 rfl ?_
        exact vv_le (ll_s rfl (ll_n (ll_n (ll_n (ll_n (ll_n (ll_n ll_0))))))) (hk135 (1 : Int32))
      · skip
        refine vv_iconst 135 hk dX8_holds_134 rfl ic_0 ?_
        exact vv_le (ll_s rfl (ll_n (ll_n (ll_n (ll_n (ll_n (ll_n ll_0))))))) (hk135 (0 : Int32))
  · skip
    refine vv_lp (fun t3 => (σ, 5, [some (rf G 32), some (.int a1), some (.int a2), some (.long t3.1), none, some (.int t3.2), none], [])) (fun kl5 hkl5 t3 => ?_) FU ((0 : Int64), (0 : Int32))
    refine vv_iload 7 hk dX8_holds_5 rfl rfl ?_
    refine vv_aload_n (i := 0) 8 hk dX8_holds_7 rfl rfl rfl ?_
    refine vv_getR 11 hk dX8_holds_8 rfl la_32 rfl ci_8 rfl fl_8_15 ?_
    refine vv_iload_n (i := 1) 12 hk dX8_holds_11 rfl rfl rfl ?_
    refine vv_iald 13 hk he dX8_holds_12 rfl la_34 sd_34 (fun v4 => ?_)
    refine vv_icmp_ge 122 16 hk dX8_holds_13 rfl rfl ?_ ?_
    · skip
      exact vv_le (ll_s rfl (ll_n (ll_n (ll_s rfl (ll_n (ll_n (ll_n ll_0))))))) (hk122 t3.1)
    · skip
      refine vv_iload 18 hk dX8_holds_16 rfl rfl ?_
      refine vv_bipush 20 hk dX8_holds_18 rfl bp_40 ?_
      refine vv_icmp_ge 122 23 hk dX8_holds_20 rfl rfl ?_ ?_
      · skip
        exact vv_le (ll_s rfl (ll_n (ll_n (ll_s rfl (ll_n (ll_n (ll_n ll_0))))))) (hk122 t3.1)
      · skip
        refine vv_aload_n (i := 0) 24 hk dX8_holds_23 rfl rfl rfl ?_
        refine vv_getR 27 hk dX8_holds_24 rfl la_32 rfl ci_8 rfl fl_8_20 ?_
        refine vv_iload_n (i := 1) 28 hk dX8_holds_27 rfl rfl rfl ?_
        refine vv_aald 29 hk dX8_holds_28 rfl la_35 stepCell step_cells (fun r5 hr5 => ?_)
        refine vv_iload 31 hk dX8_holds_29 rfl rfl ?_
        refine vv_iald 32 hk he dX8_holds_31 rfl hr5.1 hr5.2 (fun v6 => ?_)
        refine vv_istore 34 [some (rf G 32), some (.int a1), some (.int a2), some (.long t3.1), none, some (.int t3.2), some (.int v6)] hk dX8_holds_32 rfl rfl rfl ?_
        refine vv_iload 36 hk dX8_holds_34 rfl rfl ?_
        refine vv_iconst 37 hk dX8_holds_36 rfl ic_3 ?_
        refine vv_iand 38 hk dX8_holds_37 rfl ?_
        refine vv_jn (fun t7 => (σ, 116, [some (rf G 32), some (.int a1), some (.int a2), some (.long t7), none, some (.int t3.2), none], [])) (fun t7 => ?_) (fun k116 hk116 => ?_)
        · skip
          refine vv_iinc 119 (fun x8 => [some (rf G 32), some (.int a1), some (.int a2), some (.long t7), none, some (.int x8), none]) hk dX8_holds_116 rfl rfl ic_1 (fun _ => rfl) (fun x8 => ?_)
          refine vv_goto 5 hk dX8_holds_119 rfl ?_
          exact vv_le (ll_s rfl (ll_s rfl (ll_s rfl (ll_s rfl (ll_n (ll_s rfl (ll_n ll_0))))))) (hkl5 (t7, x8))
        · skip
          refine vv_case (fun h0 => ?_) (fun h0 => ?_)
          · skip
            refine vv_tabIn 64 hk dX8_holds_38 (by rw [h0]; decide +kernel) (by rw [h0]; decide +kernel) (off := 26) (by rw [h0]; decide +kernel) rfl ?_
            refine vv_lload_n (i := 3) 65 hk dX8_holds_64 rfl rfl rfl ?_
            refine vv_lconst 66 hk dX8_holds_65 rfl lc_1 ?_
            refine vv_lxor 67 hk dX8_holds_66 rfl ?_
            refine vv_lstore_nL (i := 3) 68 (fun x9 => [some (rf G 32), some (.int a1), some (.int a2), some (.long x9), none, some (.int t3.2), some (.int v6)]) hk dX8_holds_67 rfl rfl rfl (fun _ => rfl) (fun x9 => ?_)
            refine vv_goto 116 hk dX8_holds_68 rfl ?_
            exact vv_le (ll_s rfl (ll_s rfl (ll_s rfl (ll_s rfl (ll_n (ll_s rfl (ll_n ll_0))))))) (hk116 x9)
          · skip
            refine vv_case (fun h1 => ?_) (fun h1 => ?_)
            · skip
              refine vv_tabIn 71 hk dX8_holds_38 (by rw [h1]; decide +kernel) (by rw [h1]; decide +kernel) (off := 33) (by rw [h1]; decide +kernel) rfl ?_
              refine vv_lload_n (i := 3) 72 hk dX8_holds_71 rfl rfl rfl ?_
              refine vv_iconst 73 hk dX8_holds_72 rfl ic_1 ?_
              refine vv_lshr 74 hk dX8_holds_73 rfl ?_
              refine vv_lload_n (i := 3) 75 hk dX8_holds_74 rfl rfl rfl ?_
              refine vv_ldc2 78 hk dX8_holds_75 rfl cw_8_63 ?_
              refine vv_lor 79 hk dX8_holds_78 rfl ?_
              refine vv_land 80 hk dX8_holds_79 rfl ?_
              refine vv_lstore_nL (i := 3) 81 (fun x10 => [some (rf G 32), some (.int a1), some (.int a2), some (.long x10), none, some (.int t3.2), some (.int v6)]) hk dX8_holds_80 rfl rfl rfl (fun _ => rfl) (fun x10 => ?_)
              refine vv_goto 116 hk dX8_holds_81 rfl ?_
              exact vv_le (ll_s rfl (ll_s rfl (ll_s rfl (ll_s rfl (ll_n (ll_s rfl (ll_n ll_0))))))) (hk116 x10)
            · skip
              refine vv_case (fun h2 => ?_) (fun h2 => ?_)
              · skip
                refine vv_tabIn 84 hk dX8_holds_38 (by rw [h2]; decide +kernel) (by rw [h2]; decide +kernel) (off := 46) (by rw [h2]; decide +kernel) rfl ?_
                refine vv_lload_n (i := 3) 85 hk dX8_holds_84 rfl rfl rfl ?_
                refine vv_iconst 86 hk dX8_holds_85 rfl ic_1 ?_
                refine vv_lshr 87 hk dX8_holds_86 rfl ?_
                refine vv_lload_n (i := 3) 88 hk dX8_holds_87 rfl rfl rfl ?_
                refine vv_lconst 89 hk dX8_holds_88 rfl lc_1 ?_
                refine vv_land 90 hk dX8_holds_89 rfl ?_
                refine vv_lor 91 hk dX8_holds_90 rfl ?_
                refine vv_lstore_nL (i := 3) 92 (fun x11 => [some (rf G 32), some (.int a1), some (.int a2), some (.long x11), none, some (.int t3.2), some (.int v6)]) hk dX8_holds_91 rfl rfl rfl (fun _ => rfl) (fun x11 => ?_)
                refine vv_goto 116 hk dX8_holds_92 rfl ?_
                exact vv_le (ll_s rfl (ll_s rfl (ll_s rfl (ll_s rfl (ll_n (ll_s rfl (ll_n ll_0))))))) (hk116 x11)
              · skip
                refine vv_tabOut 95 hk dX8_holds_38 (by have q0 := ne_int h0; have q1 := ne_int h1; have q2 := ne_int h2; rw [ti_0] at q0; rw [ti_1] at q1; rw [ti_2] at q2; omega) rfl ?_
                refine vv_lload_n (i := 3) 96 hk dX8_holds_95 rfl rfl rfl ?_
                refine vv_iconst 97 hk dX8_holds_96 rfl ic_1 ?_
                refine vv_lshl 98 hk dX8_holds_97 rfl ?_
                refine vv_aload_n (i := 0) 99 hk dX8_holds_98 rfl rfl rfl ?_
                refine vv_iload 101 hk dX8_holds_99 rfl rfl ?_
                refine vv_iload_n (i := 2) 102 hk dX8_holds_101 rfl rfl rfl ?_
                refine vv_invIr (st := [(.long (t3.1 <<< ((1 : Int32).toInt64 &&& 63)))]) 105 hk he dX8_holds_102 rfl ml_8_65 cf_X8_compares la_32 ci_8 (c_X8_compares G v6 a2 σ) rfl rfl rfl rfl (fun v12 => ?_)
                refine vv_jn (fun t13 => (σ, 113, [some (rf G 32), some (.int a1), some (.int a2), none, none, some (.int t3.2), none], [(.int t13), (.long (t3.1 <<< ((1 : Int32).toInt64 &&& 63)))])) (fun t13 => ?_) (fun k113 hk113 => ?_)
                · skip
                  refine vv_i2l 114 hk dX8_holds_113 rfl ?_
                  refine vv_lor 115 hk dX8_holds_114 rfl ?_
                  refine vv_lstore_nL (i := 3) 116 (fun x14 => [some (rf G 32), some (.int a1), some (.int a2), some (.long x14), none, some (.int t3.2), none]) hk dX8_holds_115 rfl rfl rfl (fun _ => rfl) (fun x14 => ?_)
                  exact vv_le (ll_s rfl (ll_s rfl (ll_s rfl (ll_s rfl (ll_n (ll_s rfl (ll_n ll_0))))))) (hk116 x14)
                · skip
                  refine vv_if_eq 112 108 hk dX8_holds_105 rfl rfl ?_ ?_
                  · skip
                    refine vv_iconst 113 hk dX8_holds_112 rfl ic_0 ?_
                    exact vv_le (ll_s rfl (ll_s rfl (ll_s rfl (ll_n (ll_n (ll_s rfl (ll_n ll_0))))))) (hk113 (0 : Int32))
                  · skip
                    refine vv_iconst 109 hk dX8_holds_108 rfl ic_1 ?_
                    refine vv_goto 113 hk dX8_holds_109 rfl ?_
                    exact vv_le (ll_s rfl (ll_s rfl (ll_s rfl (ll_n (ll_n (ll_s rfl (ll_n ll_0))))))) (hk113 (1 : Int32))
theorem c_X8_forbidder (G : GT) (a1 : Int32) (a2 : Int32) (a3 : Int32) (σ : Hp) : CtI G true yX8_forbidder cX8_forbidder 6 (some .int) 4 [(rf G 32), (.int a1), (.int a2), (.int a3)] (rdI (f_X8_forbidder a1 a2 a3 σ) σ) σ := by
  refine ctIr (L0 := [some (rf G 32), some (.int a1), some (.int a2), some (.int a3), none, none]) (by decide +kernel) rfl rfl rfl (fun κ hk he hret => ?_)
  have hk : KO G κ cX8_forbidder RX8 4 := hk
  refine vv_aload_n (i := 0) 1 hk dX8_forbidder_0 rfl rfl rfl ?_
  refine vv_getI 4 hk he dX8_forbidder_1 rfl la_32 rfl ci_8 rfl fl_8_49 sd_32 ?_
  refine vv_iload_n (i := 2) 5 hk dX8_forbidder_4 rfl rfl rfl ?_
  refine vv_jn (fun t1 => (σ, 21, [some (rf G 32), some (.int a1), none, some (.int a3), none, none], [(.int t1), (.int (σ.1 32 3))])) (fun t1 => ?_) (fun k21 hk21 => ?_)
  · skip
    refine vv_iand 22 hk dX8_forbidder_21 rfl ?_
    refine vv_istoreL 24 (fun x2 => [some (rf G 32), some (.int a1), none, some (.int a3), some (.int x2), none]) hk dX8_forbidder_22 rfl rfl (fun _ => rfl) (fun x2 => ?_)
    refine vv_iconst 25 hk dX8_forbidder_24 rfl ic_0 ?_
    refine vv_istore 27 [some (rf G 32), some (.int a1), none, some (.int a3), some (.int x2), some (.int (0 : Int32))] hk dX8_forbidder_25 rfl rfl rfl ?_
    refine vv_lp (fun t3 => (σ, 27, [some (rf G 32), some (.int a1), none, some (.int a3), some (.int x2), some (.int t3)], [])) (fun kl27 hkl27 t3 => ?_) FU (0 : Int32)
    refine vv_iload 29 hk dX8_forbidder_27 rfl rfl ?_
    refine vv_aload_n (i := 0) 30 hk dX8_forbidder_29 rfl rfl rfl ?_
    refine vv_getI 33 hk he dX8_forbidder_30 rfl la_32 rfl ci_8 rfl fl_8_31 sd_32 ?_
    refine vv_icmp_ge 77 36 hk dX8_forbidder_33 rfl rfl ?_ ?_
    · skip
      refine vv_bipush 79 hk dX8_forbidder_77 rfl bp_m9 ?_
      exact hret _ _ _ dX8_forbidder_79
    · skip
      refine vv_iload 38 hk dX8_forbidder_36 rfl rfl ?_
      refine vv_iload 40 hk dX8_forbidder_38 rfl rfl ?_
      refine vv_ishr 41 hk dX8_forbidder_40 rfl ?_
      refine vv_iconst 42 hk dX8_forbidder_41 rfl ic_1 ?_
      refine vv_iand 43 hk dX8_forbidder_42 rfl ?_
      refine vv_iconst 44 hk dX8_forbidder_43 rfl ic_1 ?_
      refine vv_jn (fun t4 => (σ, 71, [some (rf G 32), some (.int a1), none, some (.int a3), some (.int x2), some (.int t3)], [])) (fun t4 => ?_) (fun k71 hk71 => ?_)
      · skip
        refine vv_iinc 74 (fun x5 => [some (rf G 32), some (.int a1), none, some (.int a3), some (.int x2), some (.int x5)]) hk dX8_forbidder_71 rfl rfl ic_1 (fun _ => rfl) (fun x5 => ?_)
        refine vv_goto 27 hk dX8_forbidder_74 rfl ?_
        exact vv_le (ll_s rfl (ll_s rfl (ll_n (ll_s rfl (ll_s rfl (ll_s rfl ll_0)))))) (hkl27 x5)
      · skip
        refine vv_icmp_ne 71 47 hk dX8_forbidder_44 rfl rfl ?_ ?_
        · skip
          refine vv_aload_n (i := 0) 48 hk dX8_forbidder_47 rfl rfl rfl ?_
          refine vv_getR 51 hk dX8_forbidder_48 rfl la_32 rfl ci_8 rfl fl_8_9 ?_
          refine vv_iload 53 hk dX8_forbidder_51 rfl rfl ?_
          refine vv_iald 54 hk he dX8_forbidder_53 rfl la_33 sd_33 (fun v6 => ?_)
          refine vv_iload_n (i := 1) 55 hk dX8_forbidder_54 rfl rfl rfl ?_
          refine vv_icmp_ne 71 58 hk dX8_forbidder_55 rfl rfl ?_ ?_
          · skip
            refine vv_aload_n (i := 0) 59 hk dX8_forbidder_58 rfl rfl rfl ?_
            refine vv_iload 61 hk dX8_forbidder_59 rfl rfl ?_
            refine vv_iload_n (i := 3) 62 hk dX8_forbidder_61 rfl rfl rfl ?_
            refine vv_invIr (st := []) 65 hk he dX8_forbidder_62 rfl ml_8_59 cf_X8_holds la_32 ci_8 (c_X8_holds G t3 a3 σ) rfl rfl rfl rfl (fun v7 => ?_)
            refine vv_if_eq 71 68 hk dX8_forbidder_65 rfl rfl ?_ ?_
            · skip
              exact vv_le (ll_s rfl (ll_s rfl (ll_n (ll_s rfl (ll_s rfl (ll_s rfl ll_0)))))) (hk71 ())
            · skip
              refine vv_iload 70 hk dX8_forbidder_68 rfl rfl ?_
              exact hret _ _ _ dX8_forbidder_70
          · skip
            exact vv_le (ll_s rfl (ll_s rfl (ll_n (ll_s rfl (ll_s rfl (ll_s rfl ll_0)))))) (hk71 ())
        · skip
          exact vv_le (ll_s rfl (ll_s rfl (ll_n (ll_s rfl (ll_s rfl (ll_s rfl ll_0)))))) (hk71 ())
  · skip
    refine vv_if_eq 15 8 hk dX8_forbidder_5 rfl rfl ?_ ?_
    · skip
      refine vv_aload_n (i := 0) 16 hk dX8_forbidder_15 rfl rfl rfl ?_
      refine vv_getI 19 hk he dX8_forbidder_16 rfl la_32 rfl ci_8 rfl fl_8_52 sd_32 ?_
      refine vv_iconst 20 hk dX8_forbidder_19 rfl ic_m1 ?_
      refine vv_ixor 21 hk dX8_forbidder_20 rfl ?_
      exact vv_le (ll_s rfl (ll_s rfl (ll_n (ll_s rfl (ll_n (ll_n ll_0)))))) (hk21 ((σ.1 32 4) ^^^ (-1 : Int32)))
    · skip
      refine vv_aload_n (i := 0) 9 hk dX8_forbidder_8 rfl rfl rfl ?_
      refine vv_getI 12 hk he dX8_forbidder_9 rfl la_32 rfl ci_8 rfl fl_8_52 sd_32 ?_
      refine vv_goto 21 hk dX8_forbidder_12 rfl ?_
      exact vv_le (ll_s rfl (ll_s rfl (ll_n (ll_s rfl (ll_n (ll_n ll_0)))))) (hk21 (σ.1 32 4))
theorem c_X0_forget (G : GT) (σ : Hp) : CtV G true yX0_forget cX0_forget 1 none 0 [(rf G 25)] (f_X0_forget σ) σ := by
  refine ctV (L0 := [some (rf G 25)]) (by decide +kernel) rfl rfl rfl (fun κ hk he hret => ?_)
  have hk : KO G κ cX0_forget RX0 0 := hk
  refine vv_aload_n (i := 0) 1 hk dX0_forget_0 rfl rfl rfl ?_
  refine vv_iconst 2 hk dX0_forget_1 rfl ic_0 ?_
  refine vv_putI 5 hk he dX0_forget_2 rfl la_25 rfl ci_0 rfl fl_0_19 sd_25 rfl rfl (fun σ1 => ?_)
  refine vv_aload_n (i := 0) 6 hk dX0_forget_5 rfl rfl rfl ?_
  refine vv_iconst 7 hk dX0_forget_6 rfl ic_0 ?_
  refine vv_putI 10 hk he dX0_forget_7 rfl la_25 rfl ci_0 rfl fl_0_23 sd_25 rfl rfl (fun σ2 => ?_)
  exact hret _ _ _ dX0_forget_10
theorem c_X4_tell_13 (G : GT) (a1 : Int32) (a2 : Int32) (a3 : Int32) (a4 : Int32) (σ : Hp) : CtV G true yX4_tell cX4_tell 5 none 0 [(rf G 13), (.int a1), (.int a2), (.int a3), (.int a4)] (f_X4_tell 13 a1 a2 a3 a4 σ) σ := by
  refine ctV (L0 := [some (rf G 13), some (.int a1), some (.int a2), some (.int a3), some (.int a4)]) (by decide +kernel) rfl rfl rfl (fun κ hk he hret => ?_)
  have hk : KO G κ cX4_tell RX4 0 := hk
  refine vv_iload 2 hk dX4_tell_0 rfl rfl ?_
  refine vv_jn (fun t1 => (t1, 36, [some (rf G 13), none, some (.int a2), some (.int a3), none], [])) (fun t1 => ?_) (fun k36 hk36 => ?_)
  · skip
    refine vv_aload_n (i := 0) 37 hk dX4_tell_36 rfl rfl rfl ?_
    refine vv_getR 40 hk dX4_tell_37 rfl la_13 rfl ci_4 rfl fl_4_21 ?_
    refine vv_iload_n (i := 2) 41 hk dX4_tell_40 rfl rfl rfl ?_
    refine vv_dup2 42 hk dX4_tell_41 rfl rfl rfl ?_
    refine vv_iald 43 hk he dX4_tell_42 rfl la_17 sd_17 (fun v2 => ?_)
    refine vv_iload_n (i := 3) 44 hk dX4_tell_43 rfl rfl rfl ?_
    refine vv_iadd 45 hk dX4_tell_44 rfl ?_
    refine vv_iast 46 hk he dX4_tell_45 rfl la_17 sd_17 (fun σ3 => ?_)
    exact hret _ _ _ dX4_tell_46
  · skip
    refine vv_if_eq 22 5 hk dX4_tell_2 rfl rfl ?_ ?_
    · skip
      refine vv_aload_n (i := 0) 23 hk dX4_tell_22 rfl rfl rfl ?_
      refine vv_getR 26 hk dX4_tell_23 rfl la_13 rfl ci_4 rfl fl_4_9 ?_
      refine vv_iload_n (i := 1) 27 hk dX4_tell_26 rfl rfl rfl ?_
      refine vv_iconst 28 hk dX4_tell_27 rfl ic_3 ?_
      refine vv_imul 29 hk dX4_tell_28 rfl ?_
      refine vv_iload_n (i := 2) 30 hk dX4_tell_29 rfl rfl rfl ?_
      refine vv_iadd 31 hk dX4_tell_30 rfl ?_
      refine vv_dup2 32 hk dX4_tell_31 rfl rfl rfl ?_
      refine vv_iald 33 hk he dX4_tell_32 rfl la_14 sd_14 (fun v4 => ?_)
      refine vv_iload_n (i := 3) 34 hk dX4_tell_33 rfl rfl rfl ?_
      refine vv_iadd 35 hk dX4_tell_34 rfl ?_
      refine vv_iast 36 hk he dX4_tell_35 rfl la_14 sd_14 (fun σ5 => ?_)
      exact vv_le (ll_s rfl (ll_n (ll_s rfl (ll_s rfl (ll_n ll_0))))) (hk36 σ5)
    · skip
      refine vv_aload_n (i := 0) 6 hk dX4_tell_5 rfl rfl rfl ?_
      refine vv_getR 9 hk dX4_tell_6 rfl la_13 rfl ci_4 rfl fl_4_15 ?_
      refine vv_iload_n (i := 1) 10 hk dX4_tell_9 rfl rfl rfl ?_
      refine vv_iconst 11 hk dX4_tell_10 rfl ic_3 ?_
      refine vv_imul 12 hk dX4_tell_11 rfl ?_
      refine vv_iload_n (i := 2) 13 hk dX4_tell_12 rfl rfl rfl ?_
      refine vv_iadd 14 hk dX4_tell_13 rfl ?_
      refine vv_dup2 15 hk dX4_tell_14 rfl rfl rfl ?_
      refine vv_iald 16 hk he dX4_tell_15 rfl la_15 sd_15 (fun v6 => ?_)
      refine vv_iload_n (i := 3) 17 hk dX4_tell_16 rfl rfl rfl ?_
      refine vv_iadd 18 hk dX4_tell_17 rfl ?_
      refine vv_iast 19 hk he dX4_tell_18 rfl la_15 sd_15 (fun σ7 => ?_)
      refine vv_goto 36 hk dX4_tell_19 rfl ?_
      exact vv_le (ll_s rfl (ll_n (ll_s rfl (ll_s rfl (ll_n ll_0))))) (hk36 σ7)
theorem c_J7_fill_53178 (G : GT) (kc : Nat) (nc : Nat) (a1 : Int32) (σ : Hp) (ho : LAY[kc]? = some (.inr (0, nc))) (hsd : decide (kc < NC) = true) : CtV G true yJ7_fill_53178 cJ7_fill_53178 4 none 0 [(rf G kc), (.int a1)] (f_J7_fill_53178 kc nc a1 σ) σ := by
  refine ctV (L0 := [some (rf G kc), some (.int a1), none, none]) (by decide +kernel) rfl rfl rfl (fun κ hk he hret => ?_)
  have hk : KO G κ cJ7_fill_53178 RJ7 0 := hk
  refine vv_iconst 1 hk dJ7_fill_53178_0 rfl ic_0 ?_
  refine vv_istore_n (i := 2) 2 [some (rf G kc), some (.int a1), some (.int (0 : Int32)), none] hk dJ7_fill_53178_1 rfl rfl rfl rfl ?_
  refine vv_aload_n (i := 0) 3 hk dJ7_fill_53178_2 rfl rfl rfl ?_
  refine vv_alen 4 hk dJ7_fill_53178_3 rfl ho rfl rfl ?_
  refine vv_istore_nL (i := 3) 5 (fun x1 => [some (rf G kc), some (.int a1), some (.int (0 : Int32)), some (.int x1)]) hk dJ7_fill_53178_4 rfl rfl rfl (fun _ => rfl) (fun x1 => ?_)
  refine vv_lp (fun t2 => (t2.2, 5, [some (rf G kc), some (.int a1), some (.int t2.1), some (.int x1)], [])) (fun kl5 hkl5 t2 => ?_) FU ((0 : Int32), σ)
  refine vv_iload_n (i := 2) 6 hk dJ7_fill_53178_5 rfl rfl rfl ?_
  refine vv_iload_n (i := 3) 7 hk dJ7_fill_53178_6 rfl rfl rfl ?_
  refine vv_icmp_ge 20 10 hk dJ7_fill_53178_7 rfl rfl ?_ ?_
  · skip
    exact hret _ _ _ dJ7_fill_53178_20
  · skip
    refine vv_aload_n (i := 0) 11 hk dJ7_fill_53178_10 rfl rfl rfl ?_
    refine vv_iload_n (i := 2) 12 hk dJ7_fill_53178_11 rfl rfl rfl ?_
    refine vv_iload_n (i := 1) 13 hk dJ7_fill_53178_12 rfl rfl rfl ?_
    refine vv_iast 14 hk he dJ7_fill_53178_13 rfl ho hsd (fun σ3 => ?_)
    refine vv_iinc 17 (fun x4 => [some (rf G kc), some (.int a1), some (.int x4), some (.int x1)]) hk dJ7_fill_53178_14 rfl rfl ic_1 (fun _ => rfl) (fun x4 => ?_)
    refine vv_goto 5 hk dJ7_fill_53178_17 rfl ?_
    exact vv_le (ll_s rfl (ll_s rfl (ll_s rfl (ll_s rfl ll_0)))) (hkl5 (x4, σ3))
theorem c_X9_findShown (G : GT) (σ : Hp) : CtV G true yX9_findShown cX9_findShown 5 none 0 [(rf G 77)] (f_X9_findShown σ) σ := by
  refine ctV (L0 := [some (rf G 77), none, none, none, none]) (by decide +kernel) rfl rfl rfl (fun κ hk he hret => ?_)
  have hk : KO G κ cX9_findShown RX9 0 := hk
  refine vv_iconst 1 hk dX9_findShown_0 rfl ic_0 ?_
  refine vv_istore_n (i := 1) 2 [some (rf G 77), some (.int (0 : Int32)), none, none, none] hk dX9_findShown_1 rfl rfl rfl rfl ?_
  refine vv_lp (fun t1 => (t1.2, 2, [some (rf G 77), some (.int t1.1), none, none, none], [])) (fun kl2 hkl2 t1 => ?_) FU ((0 : Int32), σ)
  refine vv_iload_n (i := 1) 3 hk dX9_findShown_2 rfl rfl rfl ?_
  refine vv_aload_n (i := 0) 4 hk dX9_findShown_3 rfl rfl rfl ?_
  refine vv_getI 7 hk he dX9_findShown_4 rfl la_77 rfl ci_9 rfl fl_9_44 sd_77 ?_
  refine vv_icmp_ge 96 10 hk dX9_findShown_7 rfl rfl ?_ ?_
  · skip
    exact hret _ _ _ dX9_findShown_96
  · skip
    refine vv_aload_n (i := 0) 11 hk dX9_findShown_10 rfl rfl rfl ?_
    refine vv_getR 14 hk dX9_findShown_11 rfl la_77 rfl ci_9 rfl fl_9_28 ?_
    refine vv_iload_n (i := 1) 15 hk dX9_findShown_14 rfl rfl rfl ?_
    refine vv_iconst 16 hk dX9_findShown_15 rfl ic_0 ?_
    refine vv_iast 17 hk he dX9_findShown_16 rfl la_83 sd_83 (fun σ2 => ?_)
    refine vv_iconst 18 hk dX9_findShown_17 rfl ic_0 ?_
    refine vv_istore_n (i := 2) 19 [some (rf G 77), some (.int t1.1), some (.int (0 : Int32)), none, none] hk dX9_findShown_18 rfl rfl rfl rfl ?_
    refine vv_jn (fun t3 => (t3, 90, [some (rf G 77), some (.int t1.1), none, none, none], [])) (fun t3 => ?_) (fun k90 hk90 => ?_)
    · skip
      refine vv_iinc 93 (fun x4 => [some (rf G 77), some (.int x4), none, none, none]) hk dX9_findShown_90 rfl rfl ic_1 (fun _ => rfl) (fun x4 => ?_)
      refine vv_goto 2 hk dX9_findShown_93 rfl ?_
      exact vv_le (ll_s rfl (ll_s rfl (ll_n (ll_n (ll_n ll_0))))) (hkl2 (x4, t3))
    · skip
      refine vv_lp (fun t5 => (t5.2, 19, [some (rf G 77), some (.int t1.1), some (.int t5.1), none, none], [])) (fun kl19 hkl19 t5 => ?_) FU ((0 : Int32), σ2)
      refine vv_iload_n (i := 2) 20 hk dX9_findShown_19 rfl rfl rfl ?_
      refine vv_aload_n (i := 0) 21 hk dX9_findShown_20 rfl rfl rfl ?_
      refine vv_getI 24 hk he dX9_findShown_21 rfl la_77 rfl ci_9 rfl fl_9_40 sd_77 ?_
      refine vv_icmp_ge 90 27 hk dX9_findShown_24 rfl rfl ?_ ?_
      · skip
        exact vv_le (ll_s rfl (ll_s rfl (ll_n (ll_n (ll_n ll_0))))) (hk90 t5.2)
      · skip
        refine vv_aload_n (i := 0) 28 hk dX9_findShown_27 rfl rfl rfl ?_
        refine vv_getR 31 hk dX9_findShown_28 rfl la_77 rfl ci_9 rfl fl_9_15 ?_
        refine vv_iload_n (i := 2) 32 hk dX9_findShown_31 rfl rfl rfl ?_
        refine vv_iald 33 hk he dX9_findShown_32 rfl la_79 sd_79 (fun v6 => ?_)
        refine vv_istore_n (i := 3) 34 [some (rf G 77), some (.int t1.1), some (.int t5.1), some (.int v6), none] hk dX9_findShown_33 rfl rfl rfl rfl ?_
        refine vv_aload_n (i := 0) 35 hk dX9_findShown_34 rfl rfl rfl ?_
        refine vv_getR 38 hk dX9_findShown_35 rfl la_77 rfl ci_9 rfl fl_9_18 ?_
        refine vv_iload_n (i := 2) 39 hk dX9_findShown_38 rfl rfl rfl ?_
        refine vv_iald 40 hk he dX9_findShown_39 rfl la_80 sd_80 (fun v7 => ?_)
        refine vv_aload_n (i := 0) 41 hk dX9_findShown_40 rfl rfl rfl ?_
        refine vv_getR 44 hk dX9_findShown_41 rfl la_77 rfl ci_9 rfl fl_9_21 ?_
        refine vv_iload_n (i := 1) 45 hk dX9_findShown_44 rfl rfl rfl ?_
        refine vv_iald 46 hk he dX9_findShown_45 rfl la_81 sd_81 (fun v8 => ?_)
        refine vv_aload_n (i := 0) 47 hk dX9_findShown_46 rfl rfl rfl ?_
        refine vv_getR 50 hk dX9_findShown_47 rfl la_77 rfl ci_9 rfl fl_9_11 ?_
        refine vv_iload_n (i := 3) 51 hk dX9_findShown_50 rfl rfl rfl ?_
        refine vv_iald 52 hk he dX9_findShown_51 rfl la_78 sd_78 (fun v9 => ?_)
        refine vv_isub 53 hk dX9_findShown_52 rfl ?_
        refine vv_jn (fun t10 => (t5.2, 61, [some (rf G 77), some (.int t1.1), some (.int t5.1), some (.int v6), none], [(.int t10)])) (fun t10 => ?_) (fun k61 hk61 => ?_)
        · skip
          refine vv_istore 63 [some (rf G 77), some (.int t1.1), some (.int t5.1), some (.int v6), some (.int t10)] hk dX9_findShown_61 rfl rfl rfl ?_
          refine vv_aload_n (i := 0) 64 hk dX9_findShown_63 rfl rfl rfl ?_
          refine vv_getR 67 hk dX9_findShown_64 rfl la_77 rfl ci_9 rfl fl_9_28 ?_
          refine vv_iload_n (i := 1) 68 hk dX9_findShown_67 rfl rfl rfl ?_
          refine vv_dup2 69 hk dX9_findShown_68 rfl rfl rfl ?_
          refine vv_iald 70 hk he dX9_findShown_69 rfl la_83 sd_83 (fun v11 => ?_)
          refine vv_iload 72 hk dX9_findShown_70 rfl rfl ?_
          refine vv_jn (fun t12 => (t5.2, 82, [some (rf G 77), some (.int t1.1), some (.int t5.1), none, none], [(.int t12), (.int v11), (.int t1.1), (rf G 83)])) (fun t12 => ?_) (fun k82 hk82 => ?_)
          · skip
            refine vv_ior 83 hk dX9_findShown_82 rfl ?_
            refine vv_iast 84 hk he dX9_findShown_83 rfl la_83 sd_83 (fun σ13 => ?_)
            refine vv_iinc 87 (fun x14 => [some (rf G 77), some (.int t1.1), some (.int x14), none, none]) hk dX9_findShown_84 rfl rfl ic_1 (fun _ => rfl) (fun x14 => ?_)
            refine vv_goto 19 hk dX9_findShown_87 rfl ?_
            exact vv_le (ll_s rfl (ll_s rfl (ll_s rfl (ll_n (ll_n ll_0))))) (hkl19 (x14, σ13))
          · skip
            refine vv_if_eq 81 75 hk dX9_findShown_72 rfl rfl ?_ ?_
            · skip
              refine vv_iconst 82 hk dX9_findShown_81 rfl ic_0 ?_
              exact vv_le (ll_s rfl (ll_s rfl (ll_s rfl (ll_n (ll_n ll_0))))) (hk82 (0 : Int32))
            · skip
              refine vv_iconst 76 hk dX9_findShown_75 rfl ic_1 ?_
              refine vv_iload_n (i := 3) 77 hk dX9_findShown_76 rfl rfl rfl ?_
              refine vv_ishl 78 hk dX9_findShown_77 rfl ?_
              refine vv_goto 82 hk dX9_findShown_78 rfl ?_
              exact vv_le (ll_s rfl (ll_s rfl (ll_s rfl (ll_n (ll_n ll_0))))) (hk82 ((1 : Int32) <<< (v6 &&& 31)))
        · skip
          refine vv_icmp_ne 60 56 hk dX9_findShown_53 rfl rfl ?_ ?_
          · skip
            refine vv_iconst 57 hk dX9_findShown_56 rfl ic_1 ?_
            refine vv_goto 61 hk dX9_findShown_57 rfl ?_
            exact vv_le (ll_s rfl (ll_s rfl (ll_s rfl (ll_s rfl (ll_n ll_0))))) (hk61 (1 : Int32))
          · skip
            refine vv_iconst 61 hk dX9_findShown_60 rfl ic_0 ?_
            exact vv_le (ll_s rfl (ll_s rfl (ll_s rfl (ll_s rfl (ll_n ll_0))))) (hk61 (0 : Int32))
theorem c_X9_fits (G : GT) (a1 : Int32) (σ : Hp) : CtI G true yX9_fits cX9_fits 3 (some .boolean) 0 [(rf G 77), (.int a1)] (rdI (f_X9_fits a1 σ) σ) σ := by
  refine ctZr (L0 := [some (rf G 77), some (.int a1), none]) (by decide +kernel) rfl rfl rfl (fun κ hk he hret => ?_)
  have hk : KO G κ cX9_fits RX9 0 := hk
  refine vv_iconst 1 hk dX9_fits_0 rfl ic_0 ?_
  refine vv_istore_n (i := 2) 2 [some (rf G 77), some (.int a1), some (.int (0 : Int32))] hk dX9_fits_1 rfl rfl rfl rfl ?_
  refine vv_lp (fun t1 => (σ, 2, [some (rf G 77), some (.int a1), some (.int t1)], [])) (fun kl2 hkl2 t1 => ?_) FU (0 : Int32)
  refine vv_iload_n (i := 2) 3 hk dX9_fits_2 rfl rfl rfl ?_
  refine vv_aload_n (i := 0) 4 hk dX9_fits_3 rfl rfl rfl ?_
  refine vv_getI 7 hk he dX9_fits_4 rfl la_77 rfl ci_9 rfl fl_9_44 sd_77 ?_
  refine vv_icmp_ge 43 10 hk dX9_fits_7 rfl rfl ?_ ?_
  · skip
    refine vv_iconst 44 hk dX9_fits_43 rfl ic_1 ?_
    exact hret _ _ _ dX9_fits_44
  · skip
    refine vv_iload_n (i := 1) 11 hk dX9_fits_10 rfl rfl rfl ?_
    refine vv_aload_n (i := 0) 12 hk dX9_fits_11 rfl rfl rfl ?_
    refine vv_getR 15 hk dX9_fits_12 rfl la_77 rfl ci_9 rfl fl_9_28 ?_
    refine vv_iload_n (i := 2) 16 hk dX9_fits_15 rfl rfl rfl ?_
    refine vv_iald 17 hk he dX9_fits_16 rfl la_83 sd_83 (fun v2 => ?_)
    refine vv_iand 18 hk dX9_fits_17 rfl ?_
    refine vv_jn (fun t3 => (σ, 26, [some (rf G 77), some (.int a1), some (.int t1)], [(.int t3)])) (fun t3 => ?_) (fun k26 hk26 => ?_)
    · skip
      refine vv_aload_n (i := 0) 27 hk dX9_fits_26 rfl rfl rfl ?_
      refine vv_getR 30 hk dX9_fits_27 rfl la_77 rfl ci_9 rfl fl_9_24 ?_
      refine vv_iload_n (i := 2) 31 hk dX9_fits_30 rfl rfl rfl ?_
      refine vv_zald 32 hk he dX9_fits_31 rfl la_82 sd_82 (fun v4 => ?_)
      refine vv_icmp_eq 37 35 hk dX9_fits_32 rfl rfl ?_ ?_
      · skip
        refine vv_iinc 40 (fun x5 => [some (rf G 77), some (.int a1), some (.int x5)]) hk dX9_fits_37 rfl rfl ic_1 (fun _ => rfl) (fun x5 => ?_)
        refine vv_goto 2 hk dX9_fits_40 rfl ?_
        exact vv_le (ll_s rfl (ll_s rfl (ll_s rfl ll_0))) (hkl2 x5)
      · skip
        refine vv_iconst 36 hk dX9_fits_35 rfl ic_0 ?_
        exact hret _ _ _ dX9_fits_36
    · skip
      refine vv_if_eq 25 21 hk dX9_fits_18 rfl rfl ?_ ?_
      · skip
        refine vv_iconst 26 hk dX9_fits_25 rfl ic_0 ?_
        exact vv_le (ll_s rfl (ll_s rfl (ll_s rfl ll_0))) (hk26 (0 : Int32))
      · skip
        refine vv_iconst 22 hk dX9_fits_21 rfl ic_1 ?_
        refine vv_goto 26 hk dX9_fits_22 rfl ?_
        exact vv_le (ll_s rfl (ll_s rfl (ll_s rfl ll_0))) (hk26 (1 : Int32))
theorem c_X9_countFitting (G : GT) (σ : Hp) : CtI G true yX9_countFitting cX9_countFitting 4 (some .int) 1 [(rf G 77)] (f_X9_countFitting σ) σ := by
  refine ctI (L0 := [some (rf G 77), none, none, none]) (by decide +kernel) rfl rfl rfl (fun κ hk he hret => ?_)
  have hk : KO G κ cX9_countFitting RX9 1 := hk
  refine vv_aload_n (i := 0) 1 hk dX9_countFitting_0 rfl rfl rfl ?_
  refine vv_invV (st := []) 4 hk he dX9_countFitting_1 rfl ml_9_55 cf_X9_findShown la_77 ci_9 (c_X9_findShown G σ) rfl rfl rfl rfl (fun σ1 => ?_)
  refine vv_aload_n (i := 0) 5 hk dX9_countFitting_4 rfl rfl rfl ?_
  refine vv_getR 8 hk dX9_countFitting_5 rfl la_77 rfl ci_9 rfl fl_9_31 ?_
  refine vv_iconst 9 hk dX9_countFitting_8 rfl ic_0 ?_
  refine vv_staV (st := []) 12 hk he dX9_countFitting_9 rfl ml_9_34 sf_J7_fill_53178 (c_J7_fill_53178 G 84 8 (0 : Int32) σ1 la_84 sd_84) rfl rfl rfl rfl (fun σ2 => ?_)
  refine vv_iconst 13 hk dX9_countFitting_12 rfl ic_0 ?_
  refine vv_istore_n (i := 1) 14 [some (rf G 77), some (.int (0 : Int32)), none, none] hk dX9_countFitting_13 rfl rfl rfl rfl ?_
  refine vv_iconst 15 hk dX9_countFitting_14 rfl ic_0 ?_
  refine vv_istore_n (i := 2) 16 [some (rf G 77), some (.int (0 : Int32)), some (.int (0 : Int32)), none] hk dX9_countFitting_15 rfl rfl rfl rfl ?_
  refine vv_lp (fun t3 => (t3.2.2, 16, [some (rf G 77), some (.int t3.1), some (.int t3.2.1), none], [])) (fun kl16 hkl16 t3 => ?_) FU ((0 : Int32), (0 : Int32), σ2)
  refine vv_iload_n (i := 2) 17 hk dX9_countFitting_16 rfl rfl rfl ?_
  refine vv_sipush 20 hk dX9_countFitting_17 rfl sp_256 ?_
  refine vv_icmp_ge 76 23 hk dX9_countFitting_20 rfl rfl ?_ ?_
  · skip
    refine vv_iload_n (i := 1) 77 hk dX9_countFitting_76 rfl rfl rfl ?_
    exact hret _ _ _ _ dX9_countFitting_77
  · skip
    refine vv_iload_n (i := 2) 24 hk dX9_countFitting_23 rfl rfl rfl ?_
    refine vv_staIr (st := []) 27 hk he dX9_countFitting_24 rfl ml_9_58 sf_J6_bitCount_0f7a4 (c_J6_bitCount_0f7a4 G t3.2.1 t3.2.2) rfl rfl rfl rfl (fun v4 => ?_)
    refine vv_iconst 28 hk dX9_countFitting_27 rfl ic_2 ?_
    refine vv_jn (fun t5 => (t5.2, 70, [some (rf G 77), some (.int t5.1), some (.int t3.2.1), none], [])) (fun t5 => ?_) (fun k70 hk70 => ?_)
    · skip
      refine vv_iinc 73 (fun x6 => [some (rf G 77), some (.int t5.1), some (.int x6), none]) hk dX9_countFitting_70 rfl rfl ic_1 (fun _ => rfl) (fun x6 => ?_)
      refine vv_goto 16 hk dX9_countFitting_73 rfl ?_
      exact vv_le (ll_s rfl (ll_s rfl (ll_s rfl (ll_n ll_0)))) (hkl16 (t5.1, x6, t5.2))
    · skip
      refine vv_icmp_gt 70 31 hk dX9_countFitting_28 rfl rfl ?_ ?_
      · skip
        exact vv_le (ll_s rfl (ll_s rfl (ll_s rfl (ll_n ll_0)))) (hk70 (t3.1, t3.2.2))
      · skip
        refine vv_aload_n (i := 0) 32 hk dX9_countFitting_31 rfl rfl rfl ?_
        refine vv_iload_n (i := 2) 33 hk dX9_countFitting_32 rfl rfl rfl ?_
        refine vv_invIr (st := []) 36 hk he dX9_countFitting_33 rfl ml_9_63 cf_X9_fits la_77 ci_9 (c_X9_fits G t3.2.1 t3.2.2) rfl rfl rfl rfl (fun v7 => ?_)
        refine vv_if_eq 70 39 hk dX9_countFitting_36 rfl rfl ?_ ?_
        · skip
          exact vv_le (ll_s rfl (ll_s rfl (ll_s rfl (ll_n ll_0)))) (hk70 (t3.1, t3.2.2))
        · skip
          refine vv_iinc 42 (fun x8 => [some (rf G 77), some (.int x8), some (.int t3.2.1), none]) hk dX9_countFitting_39 rfl rfl ic_1 (fun _ => rfl) (fun x8 => ?_)
          refine vv_iconst 43 hk dX9_countFitting_42 rfl ic_0 ?_
          refine vv_istore_n (i := 3) 44 [some (rf G 77), some (.int x8), some (.int t3.2.1), some (.int (0 : Int32))] hk dX9_countFitting_43 rfl rfl rfl rfl ?_
          refine vv_lp (fun t9 => (t9.2, 44, [some (rf G 77), some (.int x8), some (.int t3.2.1), some (.int t9.1)], [])) (fun kl44 hkl44 t9 => ?_) FU ((0 : Int32), t3.2.2)
          refine vv_iload_n (i := 3) 45 hk dX9_countFitting_44 rfl rfl rfl ?_
          refine vv_bipush 47 hk dX9_countFitting_45 rfl bp_8 ?_
          refine vv_icmp_ge 70 50 hk dX9_countFitting_47 rfl rfl ?_ ?_
          · skip
            exact vv_le (ll_s rfl (ll_s rfl (ll_s rfl (ll_n ll_0)))) (hk70 (x8, t9.2))
          · skip
            refine vv_aload_n (i := 0) 51 hk dX9_countFitting_50 rfl rfl rfl ?_
            refine vv_getR 54 hk dX9_countFitting_51 rfl la_77 rfl ci_9 rfl fl_9_31 ?_
            refine vv_iload_n (i := 3) 55 hk dX9_countFitting_54 rfl rfl rfl ?_
            refine vv_dup2 56 hk dX9_countFitting_55 rfl rfl rfl ?_
            refine vv_iald 57 hk he dX9_countFitting_56 rfl la_84 sd_84 (fun v10 => ?_)
            refine vv_iload_n (i := 2) 58 hk dX9_countFitting_57 rfl rfl rfl ?_
            refine vv_iload_n (i := 3) 59 hk dX9_countFitting_58 rfl rfl rfl ?_
            refine vv_ishr 60 hk dX9_countFitting_59 rfl ?_
            refine vv_iconst 61 hk dX9_countFitting_60 rfl ic_1 ?_
            refine vv_iand 62 hk dX9_countFitting_61 rfl ?_
            refine vv_iadd 63 hk dX9_countFitting_62 rfl ?_
            refine vv_iast 64 hk he dX9_countFitting_63 rfl la_84 sd_84 (fun σ11 => ?_)
            refine vv_iinc 67 (fun x12 => [some (rf G 77), some (.int x8), some (.int t3.2.1), some (.int x12)]) hk dX9_countFitting_64 rfl rfl ic_1 (fun _ => rfl) (fun x12 => ?_)
            refine vv_goto 44 hk dX9_countFitting_67 rfl ?_
            exact vv_le (ll_s rfl (ll_s rfl (ll_s rfl (ll_s rfl ll_0)))) (hkl44 (x12, σ11))
theorem c_X9_nextPlace (G : GT) (a1 : Int32) (σ : Hp) : CtI G true yX9_nextPlace cX9_nextPlace 6 (some .int) 0 [(rf G 77), (.int a1)] (rdI (f_X9_nextPlace a1 σ) σ) σ := by
  refine ctIr (L0 := [some (rf G 77), some (.int a1), none, none, none, none]) (by decide +kernel) rfl rfl rfl (fun κ hk he hret => ?_)
  have hk : KO G κ cX9_nextPlace RX9 0 := hk
  refine vv_bipush 2 hk dX9_nextPlace_0 rfl bp_m9 ?_
  refine vv_istore_n (i := 2) 3 [some (rf G 77), some (.int a1), some (.int (-9 : Int32)), none, none, none] hk dX9_nextPlace_2 rfl rfl rfl rfl ?_
  refine vv_iload_n (i := 1) 4 hk dX9_nextPlace_3 rfl rfl rfl ?_
  refine vv_istore_n (i := 3) 5 [some (rf G 77), some (.int a1), some (.int (-9 : Int32)), some (.int a1), none, none] hk dX9_nextPlace_4 rfl rfl rfl rfl ?_
  refine vv_iconst 6 hk dX9_nextPlace_5 rfl ic_0 ?_
  refine vv_istore 8 [some (rf G 77), some (.int a1), some (.int (-9 : Int32)), some (.int a1), some (.int (0 : Int32)), none] hk dX9_nextPlace_6 rfl rfl rfl ?_
  refine vv_lp (fun t1 => (σ, 8, [some (rf G 77), some (.int a1), some (.int t1.1), some (.int t1.2.1), some (.int t1.2.2), none], [])) (fun kl8 hkl8 t1 => ?_) FU ((-9 : Int32), a1, (0 : Int32))
  refine vv_iload 10 hk dX9_nextPlace_8 rfl rfl ?_
  refine vv_bipush 12 hk dX9_nextPlace_10 rfl bp_8 ?_
  refine vv_icmp_ge 54 15 hk dX9_nextPlace_12 rfl rfl ?_ ?_
  · skip
    refine vv_iload_n (i := 2) 55 hk dX9_nextPlace_54 rfl rfl rfl ?_
    exact hret _ _ _ dX9_nextPlace_55
  · skip
    refine vv_aload_n (i := 0) 16 hk dX9_nextPlace_15 rfl rfl rfl ?_
    refine vv_getR 19 hk dX9_nextPlace_16 rfl la_77 rfl ci_9 rfl fl_9_31 ?_
    refine vv_iload 21 hk dX9_nextPlace_19 rfl rfl ?_
    refine vv_iald 22 hk he dX9_nextPlace_21 rfl la_84 sd_84 (fun v2 => ?_)
    refine vv_iload_n (i := 1) 23 hk dX9_nextPlace_22 rfl rfl rfl ?_
    refine vv_aload_n (i := 0) 24 hk dX9_nextPlace_23 rfl rfl rfl ?_
    refine vv_getR 27 hk dX9_nextPlace_24 rfl la_77 rfl ci_9 rfl fl_9_31 ?_
    refine vv_iload 29 hk dX9_nextPlace_27 rfl rfl ?_
    refine vv_iald 30 hk he dX9_nextPlace_29 rfl la_84 sd_84 (fun v3 => ?_)
    refine vv_isub 31 hk dX9_nextPlace_30 rfl ?_
    refine vv_mmax 34 hk dX9_nextPlace_31 rfl ml_9_67 rfl ?_
    refine vv_istoreL 36 (fun x4 => [some (rf G 77), some (.int a1), some (.int t1.1), some (.int t1.2.1), some (.int t1.2.2), some (.int x4)]) hk dX9_nextPlace_34 rfl rfl (fun _ => rfl) (fun x4 => ?_)
    refine vv_iload 38 hk dX9_nextPlace_36 rfl rfl ?_
    refine vv_iload_n (i := 3) 39 hk dX9_nextPlace_38 rfl rfl rfl ?_
    refine vv_jn (fun t5 => (σ, 48, [some (rf G 77), some (.int a1), some (.int t5.1), some (.int t5.2), some (.int t1.2.2), none], [])) (fun t5 => ?_) (fun k48 hk48 => ?_)
    · skip
      refine vv_iinc 51 (fun x6 => [some (rf G 77), some (.int a1), some (.int t5.1), some (.int t5.2), some (.int x6), none]) hk dX9_nextPlace_48 rfl rfl ic_1 (fun _ => rfl) (fun x6 => ?_)
      refine vv_goto 8 hk dX9_nextPlace_51 rfl ?_
      exact vv_le (ll_s rfl (ll_s rfl (ll_s rfl (ll_s rfl (ll_s rfl (ll_n ll_0)))))) (hkl8 (t5.1, t5.2, x6))
    · skip
      refine vv_icmp_ge 48 42 hk dX9_nextPlace_39 rfl rfl ?_ ?_
      · skip
        exact vv_le (ll_s rfl (ll_s rfl (ll_s rfl (ll_s rfl (ll_s rfl (ll_n ll_0)))))) (hk48 (t1.1, t1.2.1))
      · skip
        refine vv_iload 44 hk dX9_nextPlace_42 rfl rfl ?_
        refine vv_istore_n (i := 2) 45 [some (rf G 77), some (.int a1), some (.int t1.2.2), some (.int t1.2.1), some (.int t1.2.2), some (.int x4)] hk dX9_nextPlace_44 rfl rfl rfl rfl ?_
        refine vv_iload 47 hk dX9_nextPlace_45 rfl rfl ?_
        refine vv_istore_n (i := 3) 48 [some (rf G 77), some (.int a1), some (.int t1.2.2), some (.int x4), some (.int t1.2.2), some (.int x4)] hk dX9_nextPlace_47 rfl rfl rfl rfl ?_
        exact vv_le (ll_s rfl (ll_s rfl (ll_s rfl (ll_s rfl (ll_s rfl (ll_n ll_0)))))) (hk48 (t1.2.2, x4))
theorem c_X9_found (G : GT) (a1 : Int32) (σ : Hp) : CtI G true yX9_found cX9_found 6 (some .int) 2 [(rf G 77), (.int a1)] (f_X9_found a1 σ) σ := by
  refine ctI (L0 := [some (rf G 77), some (.int a1), none, none, none, none]) (by decide +kernel) rfl rfl rfl (fun κ hk he hret => ?_)
  have hk : KO G κ cX9_found RX9 2 := hk
  refine vv_aload_n (i := 0) 1 hk dX9_found_0 rfl rfl rfl ?_
  refine vv_invI (st := []) 4 hk he dX9_found_1 rfl ml_9_47 cf_X9_countFitting la_77 ci_9 (c_X9_countFitting G σ) rfl rfl rfl rfl (fun v1 σ2 => ?_)
  refine vv_istore_n (i := 2) 5 [some (rf G 77), some (.int a1), some (.int v1), none, none, none] hk dX9_found_4 rfl rfl rfl rfl ?_
  refine vv_iload_n (i := 1) 6 hk dX9_found_5 rfl rfl rfl ?_
  refine vv_if_ne 11 9 hk dX9_found_6 rfl rfl ?_ ?_
  · skip
    refine vv_iload_n (i := 2) 10 hk dX9_found_9 rfl rfl rfl ?_
    exact hret _ _ _ _ dX9_found_10
  · skip
    refine vv_iload_n (i := 1) 12 hk dX9_found_11 rfl rfl rfl ?_
    refine vv_iconst 13 hk dX9_found_12 rfl ic_3 ?_
    refine vv_icmp_ne 22 16 hk dX9_found_13 rfl rfl ?_ ?_
    · skip
      refine vv_aload_n (i := 0) 17 hk dX9_found_16 rfl rfl rfl ?_
      refine vv_iload_n (i := 2) 18 hk dX9_found_17 rfl rfl rfl ?_
      refine vv_invIr (st := []) 21 hk he dX9_found_18 rfl ml_9_51 cf_X9_nextPlace la_77 ci_9 (c_X9_nextPlace G v1 σ2) rfl rfl rfl rfl (fun v3 => ?_)
      exact hret _ _ _ _ dX9_found_21
    · skip
      refine vv_iconst 23 hk dX9_found_22 rfl ic_0 ?_
      refine vv_istore_n (i := 3) 24 [some (rf G 77), some (.int a1), some (.int v1), some (.int (0 : Int32)), none, none] hk dX9_found_23 rfl rfl rfl rfl ?_
      refine vv_iconst 25 hk dX9_found_24 rfl ic_0 ?_
      refine vv_istore 27 [some (rf G 77), some (.int a1), some (.int v1), some (.int (0 : Int32)), some (.int (0 : Int32)), none] hk dX9_found_25 rfl rfl rfl ?_
      refine vv_lp (fun t4 => (σ2, 27, [some (rf G 77), some (.int a1), some (.int v1), some (.int t4.1), some (.int t4.2), none], [])) (fun kl27 hkl27 t4 => ?_) FU ((0 : Int32), (0 : Int32))
      refine vv_iload 29 hk dX9_found_27 rfl rfl ?_
      refine vv_bipush 31 hk dX9_found_29 rfl bp_8 ?_
      refine vv_icmp_ge 87 34 hk dX9_found_31 rfl rfl ?_ ?_
      · skip
        refine vv_iload_n (i := 3) 88 hk dX9_found_87 rfl rfl rfl ?_
        exact hret _ _ _ _ dX9_found_88
      · skip
        refine vv_aload_n (i := 0) 35 hk dX9_found_34 rfl rfl rfl ?_
        refine vv_getR 38 hk dX9_found_35 rfl la_77 rfl ci_9 rfl fl_9_31 ?_
        refine vv_iload 40 hk dX9_found_38 rfl rfl ?_
        refine vv_iald 41 hk he dX9_found_40 rfl la_84 sd_84 (fun v5 => ?_)
        refine vv_iload_n (i := 1) 42 hk dX9_found_41 rfl rfl rfl ?_
        refine vv_iconst 43 hk dX9_found_42 rfl ic_1 ?_
        refine vv_jn (fun t6 => (σ2, 51, [some (rf G 77), some (.int a1), some (.int v1), some (.int t4.1), some (.int t4.2), none], [(.int t6), (.int v5)])) (fun t6 => ?_) (fun k51 hk51 => ?_)
        · skip
          refine vv_jn (fun t7 => (σ2, 59, [some (rf G 77), some (.int a1), some (.int v1), some (.int t4.1), some (.int t4.2), none], [(.int t7)])) (fun t7 => ?_) (fun k59 hk59 => ?_)
          · skip
            refine vv_istore 61 [some (rf G 77), some (.int a1), some (.int v1), some (.int t4.1), some (.int t4.2), some (.int t7)] hk dX9_found_59 rfl rfl rfl ?_
            refine vv_iload_n (i := 3) 62 hk dX9_found_61 rfl rfl rfl ?_
            refine vv_iload 64 hk dX9_found_62 rfl rfl ?_
            refine vv_jn (fun t8 => (σ2, 79, [some (rf G 77), some (.int a1), some (.int v1), none, some (.int t4.2), none], [(.int t8), (.int t4.1)])) (fun t8 => ?_) (fun k79 hk79 => ?_)
            · skip
              refine vv_ior 80 hk dX9_found_79 rfl ?_
              refine vv_istore_nL (i := 3) 81 (fun x9 => [some (rf G 77), some (.int a1), some (.int v1), some (.int x9), some (.int t4.2), none]) hk dX9_found_80 rfl rfl rfl (fun _ => rfl) (fun x9 => ?_)
              refine vv_iinc 84 (fun x10 => [some (rf G 77), some (.int a1), some (.int v1), some (.int x9), some (.int x10), none]) hk dX9_found_81 rfl rfl ic_1 (fun _ => rfl) (fun x10 => ?_)
              refine vv_goto 27 hk dX9_found_84 rfl ?_
              exact vv_le (ll_s rfl (ll_s rfl (ll_s rfl (ll_s rfl (ll_s rfl (ll_n ll_0)))))) (hkl27 (x9, x10))
            · skip
              refine vv_jn (fun t11 => (σ2, 78, [some (rf G 77), some (.int a1), some (.int v1), none, some (.int t4.2), none], [(.int t4.1)])) (fun t11 => ?_) (fun k78 hk78 => ?_)
              · skip
                refine vv_iconst 79 hk dX9_found_78 rfl ic_0 ?_
                exact vv_le (ll_s rfl (ll_s rfl (ll_s rfl (ll_n (ll_s rfl (ll_n ll_0)))))) (hk79 (0 : Int32))
              · skip
                refine vv_if_eq 78 67 hk dX9_found_64 rfl rfl ?_ ?_
                · skip
                  exact vv_le (ll_s rfl (ll_s rfl (ll_s rfl (ll_n (ll_s rfl (ll_n ll_0)))))) (hk78 ())
                · skip
                  refine vv_iload_n (i := 2) 68 hk dX9_found_67 rfl rfl rfl ?_
                  refine vv_if_le 78 71 hk dX9_found_68 rfl rfl ?_ ?_
                  · skip
                    exact vv_le (ll_s rfl (ll_s rfl (ll_s rfl (ll_n (ll_s rfl (ll_n ll_0)))))) (hk78 ())
                  · skip
                    refine vv_iconst 72 hk dX9_found_71 rfl ic_1 ?_
                    refine vv_iload 74 hk dX9_found_72 rfl rfl ?_
                    refine vv_ishl 75 hk dX9_found_74 rfl ?_
                    refine vv_goto 79 hk dX9_found_75 rfl ?_
                    exact vv_le (ll_s rfl (ll_s rfl (ll_s rfl (ll_n (ll_s rfl (ll_n ll_0)))))) (hk79 ((1 : Int32) <<< (t4.2 &&& 31)))
          · skip
            refine vv_icmp_ne 58 54 hk dX9_found_51 rfl rfl ?_ ?_
            · skip
              refine vv_iconst 55 hk dX9_found_54 rfl ic_1 ?_
              refine vv_goto 59 hk dX9_found_55 rfl ?_
              exact vv_le (ll_s rfl (ll_s rfl (ll_s rfl (ll_s rfl (ll_s rfl (ll_n ll_0)))))) (hk59 (1 : Int32))
            · skip
              refine vv_iconst 59 hk dX9_found_58 rfl ic_0 ?_
              exact vv_le (ll_s rfl (ll_s rfl (ll_s rfl (ll_s rfl (ll_s rfl (ll_n ll_0)))))) (hk59 (0 : Int32))
        · skip
          refine vv_icmp_ne 50 46 hk dX9_found_43 rfl rfl ?_ ?_
          · skip
            refine vv_iload_n (i := 2) 47 hk dX9_found_46 rfl rfl rfl ?_
            refine vv_goto 51 hk dX9_found_47 rfl ?_
            exact vv_le (ll_s rfl (ll_s rfl (ll_s rfl (ll_s rfl (ll_s rfl (ll_n ll_0)))))) (hk51 v1)
          · skip
            refine vv_iconst 51 hk dX9_found_50 rfl ic_0 ?_
            exact vv_le (ll_s rfl (ll_s rfl (ll_s rfl (ll_s rfl (ll_s rfl (ll_n ll_0)))))) (hk51 (0 : Int32))
theorem c_X1_spare (G : GT) (a1 : Int32) (a2 : Int32) (a3 : Int32) (σ : Hp) : CtI G true yX1_spare cX1_spare 4 (some .int) 0 [(rf G 72), (.int a1), (.int a2), (.int a3)] (rdI (f_X1_spare a1 a2 a3 σ) σ) σ := by
  refine ctIr (L0 := [some (rf G 72), some (.int a1), some (.int a2), some (.int a3)]) (by decide +kernel) rfl rfl rfl (fun κ hk he hret => ?_)
  have hk : KO G κ cX1_spare RX1 0 := hk
  refine vv_aload_n (i := 0) 1 hk dX1_spare_0 rfl rfl rfl ?_
  refine vv_getR 4 hk dX1_spare_1 rfl la_72 rfl ci_1 rfl fl_1_15 ?_
  refine vv_iload_n (i := 1) 5 hk dX1_spare_4 rfl rfl rfl ?_
  refine vv_iald 6 hk he dX1_spare_5 rfl la_74 sd_74 (fun v1 => ?_)
  refine vv_iload_n (i := 3) 7 hk dX1_spare_6 rfl rfl rfl ?_
  refine vv_aload_n (i := 0) 8 hk dX1_spare_7 rfl rfl rfl ?_
  refine vv_getR 11 hk dX1_spare_8 rfl la_72 rfl ci_1 rfl fl_1_11 ?_
  refine vv_iload_n (i := 1) 12 hk dX1_spare_11 rfl rfl rfl ?_
  refine vv_iald 13 hk he dX1_spare_12 rfl la_73 sd_73 (fun v2 => ?_)
  refine vv_isub 14 hk dX1_spare_13 rfl ?_
  refine vv_imul 15 hk dX1_spare_14 rfl ?_
  refine vv_aload_n (i := 0) 16 hk dX1_spare_15 rfl rfl rfl ?_
  refine vv_getR 19 hk dX1_spare_16 rfl la_72 rfl ci_1 rfl fl_1_18 ?_
  refine vv_iload_n (i := 1) 20 hk dX1_spare_19 rfl rfl rfl ?_
  refine vv_iald 21 hk he dX1_spare_20 rfl la_75 sd_75 (fun v3 => ?_)
  refine vv_iconst 22 hk dX1_spare_21 rfl ic_0 ?_
  refine vv_iload_n (i := 2) 23 hk dX1_spare_22 rfl rfl rfl ?_
  refine vv_iload_n (i := 3) 24 hk dX1_spare_23 rfl rfl rfl ?_
  refine vv_isub 25 hk dX1_spare_24 rfl ?_
  refine vv_mmax 28 hk dX1_spare_25 rfl ml_1_47 rfl ?_
  refine vv_imul 29 hk dX1_spare_28 rfl ?_
  refine vv_isub 30 hk dX1_spare_29 rfl ?_
  exact hret _ _ _ dX1_spare_30
theorem c_X1_degreeUnder (G : GT) (a1 : Int32) (a2 : Int32) (σ : Hp) : CtI G true yX1_degreeUnder cX1_degreeUnder 4 (some .int) 1 [(rf G 72), (.int a1), (.int a2)] (rdI (f_X1_degreeUnder a1 a2 σ) σ) σ := by
  refine ctIr (L0 := [some (rf G 72), some (.int a1), some (.int a2), none]) (by decide +kernel) rfl rfl rfl (fun κ hk he hret => ?_)
  have hk : KO G κ cX1_degreeUnder RX1 1 := hk
  refine vv_aload_n (i := 0) 1 hk dX1_degreeUnder_0 rfl rfl rfl ?_
  refine vv_getR 4 hk dX1_degreeUnder_1 rfl la_72 rfl ci_1 rfl fl_1_11 ?_
  refine vv_iload_n (i := 1) 5 hk dX1_degreeUnder_4 rfl rfl rfl ?_
  refine vv_iald 6 hk he dX1_degreeUnder_5 rfl la_73 sd_73 (fun v1 => ?_)
  refine vv_istore_n (i := 3) 7 [some (rf G 72), some (.int a1), some (.int a2), some (.int v1)] hk dX1_degreeUnder_6 rfl rfl rfl rfl ?_
  refine vv_lp (fun t2 => (σ, 7, [some (rf G 72), some (.int a1), some (.int a2), some (.int t2)], [])) (fun kl7 hkl7 t2 => ?_) FU v1
  refine vv_iload_n (i := 3) 8 hk dX1_degreeUnder_7 rfl rfl rfl ?_
  refine vv_sipush 11 hk dX1_degreeUnder_8 rfl sp_300 ?_
  refine vv_icmp_gt 38 14 hk dX1_degreeUnder_11 rfl rfl ?_ ?_
  · skip
    refine vv_bipush 40 hk dX1_degreeUnder_38 rfl bp_m9 ?_
    exact hret _ _ _ dX1_degreeUnder_40
  · skip
    refine vv_aload_n (i := 0) 15 hk dX1_degreeUnder_14 rfl rfl rfl ?_
    refine vv_iload_n (i := 1) 16 hk dX1_degreeUnder_15 rfl rfl rfl ?_
    refine vv_iload_n (i := 2) 17 hk dX1_degreeUnder_16 rfl rfl rfl ?_
    refine vv_iload_n (i := 3) 18 hk dX1_degreeUnder_17 rfl rfl rfl ?_
    refine vv_invIr (st := []) 21 hk he dX1_degreeUnder_18 rfl ml_1_38 cf_X1_spare la_72 ci_1 (c_X1_spare G a1 a2 t2 σ) rfl rfl rfl rfl (fun v3 => ?_)
    refine vv_aload_n (i := 0) 22 hk dX1_degreeUnder_21 rfl rfl rfl ?_
    refine vv_getR 25 hk dX1_degreeUnder_22 rfl la_72 rfl ci_1 rfl fl_1_21 ?_
    refine vv_iload_n (i := 1) 26 hk dX1_degreeUnder_25 rfl rfl rfl ?_
    refine vv_iald 27 hk he dX1_degreeUnder_26 rfl la_76 sd_76 (fun v4 => ?_)
    refine vv_icmp_lt 32 30 hk dX1_degreeUnder_27 rfl rfl ?_ ?_
    · skip
      refine vv_iinc 35 (fun x5 => [some (rf G 72), some (.int a1), some (.int a2), some (.int x5)]) hk dX1_degreeUnder_32 rfl rfl ic_1 (fun _ => rfl) (fun x5 => ?_)
      refine vv_goto 7 hk dX1_degreeUnder_35 rfl ?_
      exact vv_le (ll_s rfl (ll_s rfl (ll_s rfl (ll_s rfl ll_0)))) (hkl7 x5)
    · skip
      refine vv_iload_n (i := 3) 31 hk dX1_degreeUnder_30 rfl rfl rfl ?_
      exact hret _ _ _ dX1_degreeUnder_31
theorem c_X1_degree (G : GT) (a1 : Int32) (σ : Hp) : CtI G true yX1_degree cX1_degree 4 (some .int) 2 [(rf G 72), (.int a1)] (rdI (f_X1_degree a1 σ) σ) σ := by
  refine ctIr (L0 := [some (rf G 72), some (.int a1), none, none]) (by decide +kernel) rfl rfl rfl (fun κ hk he hret => ?_)
  have hk : KO G κ cX1_degree RX1 2 := hk
  refine vv_sipush 3 hk dX1_degree_0 rfl sp_300 ?_
  refine vv_istore_n (i := 2) 4 [some (rf G 72), some (.int a1), some (.int (300 : Int32)), none] hk dX1_degree_3 rfl rfl rfl rfl ?_
  refine vv_iconst 5 hk dX1_degree_4 rfl ic_0 ?_
  refine vv_istore_n (i := 3) 6 [some (rf G 72), some (.int a1), some (.int (300 : Int32)), some (.int (0 : Int32))] hk dX1_degree_5 rfl rfl rfl rfl ?_
  refine vv_lp (fun t1 => (σ, 6, [some (rf G 72), some (.int a1), some (.int t1.1), some (.int t1.2)], [])) (fun kl6 hkl6 t1 => ?_) FU ((300 : Int32), (0 : Int32))
  refine vv_iload_n (i := 3) 7 hk dX1_degree_6 rfl rfl rfl ?_
  refine vv_iload_n (i := 1) 8 hk dX1_degree_7 rfl rfl rfl ?_
  refine vv_icmp_gt 30 11 hk dX1_degree_8 rfl rfl ?_ ?_
  · skip
    refine vv_iload_n (i := 2) 31 hk dX1_degree_30 rfl rfl rfl ?_
    exact hret _ _ _ dX1_degree_31
  · skip
    refine vv_iload_n (i := 2) 12 hk dX1_degree_11 rfl rfl rfl ?_
    refine vv_bipush 14 hk dX1_degree_12 rfl bp_m9 ?_
    refine vv_icmp_eq 30 17 hk dX1_degree_14 rfl rfl ?_ ?_
    · skip
      refine vv_iload_n (i := 2) 31 hk dX1_degree_30 rfl rfl rfl ?_
      exact hret _ _ _ dX1_degree_31
    · skip
      refine vv_aload_n (i := 0) 18 hk dX1_degree_17 rfl rfl rfl ?_
      refine vv_iload_n (i := 3) 19 hk dX1_degree_18 rfl rfl rfl ?_
      refine vv_iload_n (i := 2) 20 hk dX1_degree_19 rfl rfl rfl ?_
      refine vv_invIr (st := []) 23 hk he dX1_degree_20 rfl ml_1_30 cf_X1_degreeUnder la_72 ci_1 (c_X1_degreeUnder G t1.2 t1.1 σ) rfl rfl rfl rfl (fun v2 => ?_)
      refine vv_istore_n (i := 2) 24 [some (rf G 72), some (.int a1), some (.int v2), some (.int t1.2)] hk dX1_degree_23 rfl rfl rfl rfl ?_
      refine vv_iinc 27 (fun x3 => [some (rf G 72), some (.int a1), some (.int v2), some (.int x3)]) hk dX1_degree_24 rfl rfl ic_1 (fun _ => rfl) (fun x3 => ?_)
      refine vv_goto 6 hk dX1_degree_27 rfl ?_
      exact vv_le (ll_s rfl (ll_s rfl (ll_s rfl (ll_s rfl ll_0)))) (hkl6 (v2, x3))
theorem c_X1_bearable (G : GT) (a1 : Int32) (a2 : Int32) (σ : Hp) : CtI G true yX1_bearable cX1_bearable 5 (some .int) 3 [(rf G 72), (.int a1), (.int a2)] (rdI (f_X1_bearable a1 a2 σ) σ) σ := by
  refine ctIr (L0 := [some (rf G 72), some (.int a1), some (.int a2), none, none]) (by decide +kernel) rfl rfl rfl (fun κ hk he hret => ?_)
  have hk : KO G κ cX1_bearable RX1 3 := hk
  refine vv_iload_n (i := 1) 1 hk dX1_bearable_0 rfl rfl rfl ?_
  refine vv_jn (fun t1 => (σ, 17, [some (rf G 72), some (.int a1), some (.int a2), none, none], [(.int t1)])) (fun t1 => ?_) (fun k17 hk17 => ?_)
  · skip
    refine vv_istore_n (i := 3) 18 [some (rf G 72), some (.int a1), some (.int a2), some (.int t1), none] hk dX1_bearable_17 rfl rfl rfl rfl ?_
    refine vv_iload_n (i := 3) 19 hk dX1_bearable_18 rfl rfl rfl ?_
    refine vv_bipush 21 hk dX1_bearable_19 rfl bp_m9 ?_
    refine vv_icmp_eq 34 24 hk dX1_bearable_21 rfl rfl ?_ ?_
    · skip
      refine vv_bipush 36 hk dX1_bearable_34 rfl bp_m9 ?_
      exact hret _ _ _ dX1_bearable_36
    · skip
      refine vv_iload_n (i := 2) 25 hk dX1_bearable_24 rfl rfl rfl ?_
      refine vv_aload_n (i := 0) 26 hk dX1_bearable_25 rfl rfl rfl ?_
      refine vv_getR 29 hk dX1_bearable_26 rfl la_72 rfl ci_1 rfl fl_1_11 ?_
      refine vv_iload_n (i := 1) 30 hk dX1_bearable_29 rfl rfl rfl ?_
      refine vv_iald 31 hk he dX1_bearable_30 rfl la_73 sd_73 (fun v2 => ?_)
      refine vv_icmp_ge 37 34 hk dX1_bearable_31 rfl rfl ?_ ?_
      · skip
        refine vv_aload_n (i := 0) 38 hk dX1_bearable_37 rfl rfl rfl ?_
        refine vv_iload_n (i := 1) 39 hk dX1_bearable_38 rfl rfl rfl ?_
        refine vv_iload_n (i := 3) 40 hk dX1_bearable_39 rfl rfl rfl ?_
        refine vv_iload_n (i := 2) 41 hk dX1_bearable_40 rfl rfl rfl ?_
        refine vv_invIr (st := []) 44 hk he dX1_bearable_41 rfl ml_1_38 cf_X1_spare la_72 ci_1 (c_X1_spare G a1 t1 a2 σ) rfl rfl rfl rfl (fun v3 => ?_)
        refine vv_istore 46 [some (rf G 72), some (.int a1), some (.int a2), some (.int t1), some (.int v3)] hk dX1_bearable_44 rfl rfl rfl ?_
        refine vv_iload 48 hk dX1_bearable_46 rfl rfl ?_
        refine vv_jn (fun t4 => (σ, 64, [some (rf G 72), none, none, none, none], [(.int t4)])) (fun t4 => ?_) (fun k64 hk64 => ?_)
        · skip
          exact hret _ _ _ dX1_bearable_64
        · skip
          refine vv_if_ge 56 51 hk dX1_bearable_48 rfl rfl ?_ ?_
          · skip
            refine vv_sipush 59 hk dX1_bearable_56 rfl sp_9999 ?_
            refine vv_iload 61 hk dX1_bearable_59 rfl rfl ?_
            refine vv_mmin 64 hk dX1_bearable_61 rfl ml_1_42 rfl ?_
            exact vv_le (ll_s rfl (ll_n (ll_n (ll_n (ll_n ll_0))))) (hk64 (if v3 < (9999 : Int32) then v3 else (9999 : Int32)))
          · skip
            refine vv_bipush 53 hk dX1_bearable_51 rfl bp_m9 ?_
            refine vv_goto 64 hk dX1_bearable_53 rfl ?_
            exact vv_le (ll_s rfl (ll_n (ll_n (ll_n (ll_n ll_0))))) (hk64 (-9 : Int32))
      · skip
        refine vv_bipush 36 hk dX1_bearable_34 rfl bp_m9 ?_
        exact hret _ _ _ dX1_bearable_36
  · skip
    refine vv_if_ne 10 4 hk dX1_bearable_1 rfl rfl ?_ ?_
    · skip
      refine vv_sipush 7 hk dX1_bearable_4 rfl sp_300 ?_
      refine vv_goto 17 hk dX1_bearable_7 rfl ?_
      exact vv_le (ll_s rfl (ll_s rfl (ll_s rfl (ll_n (ll_n ll_0))))) (hk17 (300 : Int32))
    · skip
      refine vv_aload_n (i := 0) 11 hk dX1_bearable_10 rfl rfl rfl ?_
      refine vv_iload_n (i := 1) 12 hk dX1_bearable_11 rfl rfl rfl ?_
      refine vv_iconst 13 hk dX1_bearable_12 rfl ic_1 ?_
      refine vv_isub 14 hk dX1_bearable_13 rfl ?_
      refine vv_invIr (st := []) 17 hk he dX1_bearable_14 rfl ml_1_34 cf_X1_degree la_72 ci_1 (c_X1_degree G (a1 - (1 : Int32)) σ) rfl rfl rfl rfl (fun v5 => ?_)
      exact vv_le (ll_s rfl (ll_s rfl (ll_s rfl (ll_n (ll_n ll_0))))) (hk17 v5)
theorem c_X7_addOffer (G : GT) (a1 : Int32) (a2 : Int32) (a3 : Int32) (σ : Hp) : CtI G true yX7_addOffer cX7_addOffer 4 (some .int) 0 [(rf G 54), (.int a1), (.int a2), (.int a3)] (f_X7_addOffer a1 a2 a3 σ) σ := by
  refine ctI (L0 := [some (rf G 54), some (.int a1), some (.int a2), some (.int a3)]) (by decide +kernel) rfl rfl rfl (fun κ hk he hret => ?_)
  have hk : KO G κ cX7_addOffer RX7 0 := hk
  refine vv_aload_n (i := 0) 1 hk dX7_addOffer_0 rfl rfl rfl ?_
  refine vv_getI 4 hk he dX7_addOffer_1 rfl la_54 rfl ci_7 rfl fl_7_41 sd_54 ?_
  refine vv_bipush 6 hk dX7_addOffer_4 rfl bp_6 ?_
  refine vv_icmp_ge 49 9 hk dX7_addOffer_6 rfl rfl ?_ ?_
  · skip
    refine vv_aload_n (i := 0) 50 hk dX7_addOffer_49 rfl rfl rfl ?_
    refine vv_getI 53 hk he dX7_addOffer_50 rfl la_54 rfl ci_7 rfl fl_7_41 sd_54 ?_
    exact hret _ _ _ _ dX7_addOffer_53
  · skip
    refine vv_aload_n (i := 0) 10 hk dX7_addOffer_9 rfl rfl rfl ?_
    refine vv_getR 13 hk dX7_addOffer_10 rfl la_54 rfl ci_7 rfl fl_7_28 ?_
    refine vv_aload_n (i := 0) 14 hk dX7_addOffer_13 rfl rfl rfl ?_
    refine vv_getI 17 hk he dX7_addOffer_14 rfl la_54 rfl ci_7 rfl fl_7_41 sd_54 ?_
    refine vv_iload_n (i := 1) 18 hk dX7_addOffer_17 rfl rfl rfl ?_
    refine vv_iast 19 hk he dX7_addOffer_18 rfl la_60 sd_60 (fun σ1 => ?_)
    refine vv_aload_n (i := 0) 20 hk dX7_addOffer_19 rfl rfl rfl ?_
    refine vv_getR 23 hk dX7_addOffer_20 rfl la_54 rfl ci_7 rfl fl_7_31 ?_
    refine vv_aload_n (i := 0) 24 hk dX7_addOffer_23 rfl rfl rfl ?_
    refine vv_getI 27 hk he dX7_addOffer_24 rfl la_54 rfl ci_7 rfl fl_7_41 sd_54 ?_
    refine vv_iload_n (i := 2) 28 hk dX7_addOffer_27 rfl rfl rfl ?_
    refine vv_iast 29 hk he dX7_addOffer_28 rfl la_61 sd_61 (fun σ2 => ?_)
    refine vv_aload_n (i := 0) 30 hk dX7_addOffer_29 rfl rfl rfl ?_
    refine vv_getR 33 hk dX7_addOffer_30 rfl la_54 rfl ci_7 rfl fl_7_34 ?_
    refine vv_aload_n (i := 0) 34 hk dX7_addOffer_33 rfl rfl rfl ?_
    refine vv_getI 37 hk he dX7_addOffer_34 rfl la_54 rfl ci_7 rfl fl_7_41 sd_54 ?_
    refine vv_iload_n (i := 3) 38 hk dX7_addOffer_37 rfl rfl rfl ?_
    refine vv_iast 39 hk he dX7_addOffer_38 rfl la_62 sd_62 (fun σ3 => ?_)
    refine vv_aload_n (i := 0) 40 hk dX7_addOffer_39 rfl rfl rfl ?_
    refine vv_dup 41 hk dX7_addOffer_40 rfl rfl ?_
    refine vv_getI 44 hk he dX7_addOffer_41 rfl la_54 rfl ci_7 rfl fl_7_41 sd_54 ?_
    refine vv_iconst 45 hk dX7_addOffer_44 rfl ic_1 ?_
    refine vv_iadd 46 hk dX7_addOffer_45 rfl ?_
    refine vv_putI 49 hk he dX7_addOffer_46 rfl la_54 rfl ci_7 rfl fl_7_41 sd_54 rfl rfl (fun σ4 => ?_)
    refine vv_aload_n (i := 0) 50 hk dX7_addOffer_49 rfl rfl rfl ?_
    refine vv_getI 53 hk he dX7_addOffer_50 rfl la_54 rfl ci_7 rfl fl_7_41 sd_54 ?_
    exact hret _ _ _ _ dX7_addOffer_53
theorem c_X10_next (G : GT) (a1 : Int32) (a2 : Int32) (a3 : Int32) (σ : Hp) : CtI G true yX10_next cX10_next 7 (some .int) 5 [(rf G 52), (.int a1), (.int a2), (.int a3)] (rdI (f_X10_next a1 a2 a3 σ) σ) σ := by
  refine ctIr (L0 := [some (rf G 52), some (.int a1), some (.int a2), some (.int a3), none, none, none]) (by decide +kernel) rfl rfl rfl (fun κ hk he hret => ?_)
  have hk : KO G κ cX10_next RX10 5 := hk
  refine vv_iconst 1 hk dX10_next_0 rfl ic_0 ?_
  refine vv_istore 3 [some (rf G 52), some (.int a1), some (.int a2), some (.int a3), some (.int (0 : Int32)), none, none] hk dX10_next_1 rfl rfl rfl ?_
  refine vv_lp (fun t1 => (σ, 3, [some (rf G 52), some (.int a1), some (.int a2), some (.int a3), some (.int t1), none, none], [])) (fun kl3 hkl3 t1 => ?_) FU (0 : Int32)
  refine vv_iload 5 hk dX10_next_3 rfl rfl ?_
  refine vv_bipush 7 hk dX10_next_5 rfl bp_8 ?_
  refine vv_icmp_ge 93 10 hk dX10_next_7 rfl rfl ?_ ?_
  · skip
    refine vv_bipush 95 hk dX10_next_93 rfl bp_m9 ?_
    exact hret _ _ _ dX10_next_95
  · skip
    refine vv_iconst 11 hk dX10_next_10 rfl ic_1 ?_
    refine vv_iload 13 hk dX10_next_11 rfl rfl ?_
    refine vv_ishl 14 hk dX10_next_13 rfl ?_
    refine vv_istoreL 16 (fun x2 => [some (rf G 52), some (.int a1), some (.int a2), some (.int a3), some (.int t1), some (.int x2), none]) hk dX10_next_14 rfl rfl (fun _ => rfl) (fun x2 => ?_)
    refine vv_iload_n (i := 1) 17 hk dX10_next_16 rfl rfl rfl ?_
    refine vv_iload_n (i := 2) 18 hk dX10_next_17 rfl rfl rfl ?_
    refine vv_iconst 19 hk dX10_next_18 rfl ic_m1 ?_
    refine vv_ixor 20 hk dX10_next_19 rfl ?_
    refine vv_iand 21 hk dX10_next_20 rfl ?_
    refine vv_iload 23 hk dX10_next_21 rfl rfl ?_
    refine vv_iand 24 hk dX10_next_23 rfl ?_
    refine vv_jn (fun t3 => (σ, 32, [some (rf G 52), some (.int a1), some (.int a2), some (.int a3), some (.int t1), some (.int x2), none], [(.int t3)])) (fun t3 => ?_) (fun k32 hk32 => ?_)
    · skip
      refine vv_istore 34 [some (rf G 52), some (.int a1), some (.int a2), some (.int a3), some (.int t1), some (.int x2), some (.int t3)] hk dX10_next_32 rfl rfl rfl ?_
      refine vv_iload 36 hk dX10_next_34 rfl rfl ?_
      refine vv_jn (fun t4 => (σ, 87, [some (rf G 52), some (.int a1), some (.int a2), some (.int a3), some (.int t1), none, none], [])) (fun t4 => ?_) (fun k87 hk87 => ?_)
      · skip
        refine vv_iinc 90 (fun x5 => [some (rf G 52), some (.int a1), some (.int a2), some (.int a3), some (.int x5), none, none]) hk dX10_next_87 rfl rfl ic_1 (fun _ => rfl) (fun x5 => ?_)
        refine vv_goto 3 hk dX10_next_90 rfl ?_
        exact vv_le (ll_s rfl (ll_s rfl (ll_s rfl (ll_s rfl (ll_s rfl (ll_n (ll_n ll_0))))))) (hkl3 x5)
      · skip
        refine vv_if_eq 87 39 hk dX10_next_36 rfl rfl ?_ ?_
        · skip
          exact vv_le (ll_s rfl (ll_s rfl (ll_s rfl (ll_s rfl (ll_s rfl (ll_n (ll_n ll_0))))))) (hk87 ())
        · skip
          refine vv_iload_n (i := 2) 40 hk dX10_next_39 rfl rfl rfl ?_
          refine vv_iload 42 hk dX10_next_40 rfl rfl ?_
          refine vv_ior 43 hk dX10_next_42 rfl ?_
          refine vv_aload_n (i := 0) 44 hk dX10_next_43 rfl rfl rfl ?_
          refine vv_getR 47 hk dX10_next_44 rfl la_52 rfl ci_10 rfl fl_10_9 ?_
          refine vv_alen 48 hk dX10_next_47 rfl la_53 rfl al_256 ?_
          refine vv_staIrN (st := []) 51 hk he dX10_next_48 rfl rfl sf_X11_within (c_X11_within G (a2 ||| x2) (256 : Int32) σ) rfl rfl rfl rfl (fun v6 => ?_)
          refine vv_if_eq 87 54 hk dX10_next_51 rfl rfl ?_ ?_
          · skip
            exact vv_le (ll_s rfl (ll_s rfl (ll_s rfl (ll_s rfl (ll_s rfl (ll_n (ll_n ll_0))))))) (hk87 ())
          · skip
            refine vv_aload_n (i := 0) 55 hk dX10_next_54 rfl rfl rfl ?_
            refine vv_getR 58 hk dX10_next_55 rfl la_52 rfl ci_10 rfl fl_10_9 ?_
            refine vv_iload_n (i := 2) 59 hk dX10_next_58 rfl rfl rfl ?_
            refine vv_iload 61 hk dX10_next_59 rfl rfl ?_
            refine vv_ior 62 hk dX10_next_61 rfl ?_
            refine vv_zald 63 hk he dX10_next_62 rfl la_53 sd_53 (fun v7 => ?_)
            refine vv_if_eq 87 66 hk dX10_next_63 rfl rfl ?_ ?_
            · skip
              exact vv_le (ll_s rfl (ll_s rfl (ll_s rfl (ll_s rfl (ll_s rfl (ll_n (ll_n ll_0))))))) (hk87 ())
            · skip
              refine vv_aload_n (i := 0) 67 hk dX10_next_66 rfl rfl rfl ?_
              refine vv_getR 70 hk dX10_next_67 rfl la_52 rfl ci_10 rfl fl_10_15 ?_
              refine vv_iload 72 hk dX10_next_70 rfl rfl ?_
              refine vv_iconst 73 hk dX10_next_72 rfl ic_1 ?_
              refine vv_iload_n (i := 3) 74 hk dX10_next_73 rfl rfl rfl ?_
              refine vv_iload_n (i := 2) 75 hk dX10_next_74 rfl rfl rfl ?_
              refine vv_ior 76 hk dX10_next_75 rfl ?_
              refine vv_invIr (st := []) 79 hk he dX10_next_76 rfl ml_10_27 cf_X8_forbidder la_32 ci_8 (c_X8_forbidder G t1 (1 : Int32) (a3 ||| a2) σ) rfl rfl rfl rfl (fun v8 => ?_)
              refine vv_bipush 81 hk dX10_next_79 rfl bp_m9 ?_
              refine vv_icmp_ne 87 84 hk dX10_next_81 rfl rfl ?_ ?_
              · skip
                refine vv_iload 86 hk dX10_next_84 rfl rfl ?_
                exact hret _ _ _ dX10_next_86
              · skip
                exact vv_le (ll_s rfl (ll_s rfl (ll_s rfl (ll_s rfl (ll_s rfl (ll_n (ll_n ll_0))))))) (hk87 ())
    · skip
      refine vv_if_eq 31 27 hk dX10_next_24 rfl rfl ?_ ?_
      · skip
        refine vv_iconst 32 hk dX10_next_31 rfl ic_0 ?_
        exact vv_le (ll_s rfl (ll_s rfl (ll_s rfl (ll_s rfl (ll_s rfl (ll_s rfl (ll_n ll_0))))))) (hk32 (0 : Int32))
      · skip
        refine vv_iconst 28 hk dX10_next_27 rfl ic_1 ?_
        refine vv_goto 32 hk dX10_next_28 rfl ?_
        exact vv_le (ll_s rfl (ll_s rfl (ll_s rfl (ll_s rfl (ll_s rfl (ll_s rfl (ll_n ll_0))))))) (hk32 (1 : Int32))
theorem c_X10_nth (G : GT) (a1 : Int32) (a2 : Int32) (a3 : Int32) (a4 : Int32) (σ : Hp) : CtI G true yX10_nth cX10_nth 8 (some .int) 6 [(rf G 52), (.int a1), (.int a2), (.int a3), (.int a4)] (f_X10_nth a1 a2 a3 a4 σ) σ := by
  refine ctI (L0 := [some (rf G 52), some (.int a1), some (.int a2), some (.int a3), some (.int a4), none, none, none]) (by decide +kernel) rfl rfl rfl (fun κ hk he hret => ?_)
  have hk : KO G κ cX10_nth RX10 6 := hk
  refine vv_iload_n (i := 1) 1 hk dX10_nth_0 rfl rfl rfl ?_
  refine vv_if_le 26 4 hk dX10_nth_1 rfl rfl ?_ ?_
  · skip
    refine vv_bipush 28 hk dX10_nth_26 rfl bp_m9 ?_
    exact hret _ _ _ _ dX10_nth_28
  · skip
    refine vv_iload_n (i := 1) 5 hk dX10_nth_4 rfl rfl rfl ?_
    refine vv_aload_n (i := 0) 6 hk dX10_nth_5 rfl rfl rfl ?_
    refine vv_getR 9 hk dX10_nth_6 rfl la_52 rfl ci_10 rfl fl_10_9 ?_
    refine vv_alen 10 hk dX10_nth_9 rfl la_53 rfl al_256 ?_
    refine vv_icmp_ge 26 13 hk dX10_nth_10 rfl rfl ?_ ?_
    · skip
      refine vv_bipush 28 hk dX10_nth_26 rfl bp_m9 ?_
      exact hret _ _ _ _ dX10_nth_28
    · skip
      refine vv_iload_n (i := 1) 14 hk dX10_nth_13 rfl rfl rfl ?_
      refine vv_iload 16 hk dX10_nth_14 rfl rfl ?_
      refine vv_iand 17 hk dX10_nth_16 rfl ?_
      refine vv_if_ne 26 20 hk dX10_nth_17 rfl rfl ?_ ?_
      · skip
        refine vv_iload_n (i := 2) 21 hk dX10_nth_20 rfl rfl rfl ?_
        refine vv_bipush 23 hk dX10_nth_21 rfl bp_8 ?_
        refine vv_icmp_lt 29 26 hk dX10_nth_23 rfl rfl ?_ ?_
        · skip
          refine vv_aload_n (i := 0) 30 hk dX10_nth_29 rfl rfl rfl ?_
          refine vv_getR 33 hk dX10_nth_30 rfl la_52 rfl ci_10 rfl fl_10_9 ?_
          refine vv_iload_n (i := 1) 34 hk dX10_nth_33 rfl rfl rfl ?_
          refine vv_iconst 35 hk dX10_nth_34 rfl ic_1 ?_
          refine vv_zast 36 hk he dX10_nth_35 rfl la_53 sd_53 (fun σ1 => ?_)
          refine vv_iload_n (i := 1) 37 hk dX10_nth_36 rfl rfl rfl ?_
          refine vv_iconst 38 hk dX10_nth_37 rfl ic_1 ?_
          refine vv_isub 39 hk dX10_nth_38 rfl ?_
          refine vv_istoreL 41 (fun x2 => [some (rf G 52), some (.int a1), some (.int a2), some (.int a3), some (.int a4), some (.int x2), none, none]) hk dX10_nth_39 rfl rfl (fun _ => rfl) (fun x2 => ?_)
          refine vv_jn (fun t3 => (t3, 86, [some (rf G 52), some (.int a1), some (.int a2), some (.int a3), none, none, none, none], [])) (fun t3 => ?_) (fun k86 hk86 => ?_)
          · skip
            refine vv_iconst 87 hk dX10_nth_86 rfl ic_0 ?_
            refine vv_istore 89 [some (rf G 52), some (.int a1), some (.int a2), some (.int a3), none, some (.int (0 : Int32)), none, none] hk dX10_nth_87 rfl rfl rfl ?_
            refine vv_aload_n (i := 0) 90 hk dX10_nth_89 rfl rfl rfl ?_
            refine vv_iload_n (i := 1) 91 hk dX10_nth_90 rfl rfl rfl ?_
            refine vv_iload 93 hk dX10_nth_91 rfl rfl ?_
            refine vv_iload_n (i := 3) 94 hk dX10_nth_93 rfl rfl rfl ?_
            refine vv_invIr (st := []) 97 hk he dX10_nth_94 rfl ml_10_19 cf_X10_next la_52 ci_10 (c_X10_next G a1 (0 : Int32) a3 t3) rfl rfl rfl rfl (fun v4 => ?_)
            refine vv_istore 99 [some (rf G 52), some (.int a1), some (.int a2), some (.int a3), none, some (.int (0 : Int32)), some (.int v4), none] hk dX10_nth_97 rfl rfl rfl ?_
            refine vv_iconst 100 hk dX10_nth_99 rfl ic_0 ?_
            refine vv_istore 102 [some (rf G 52), some (.int a1), some (.int a2), some (.int a3), none, some (.int (0 : Int32)), some (.int v4), some (.int (0 : Int32))] hk dX10_nth_100 rfl rfl rfl ?_
            refine vv_lp (fun t5 => (t3, 102, [some (rf G 52), some (.int a1), some (.int a2), some (.int a3), none, some (.int t5.1), some (.int t5.2.1), some (.int t5.2.2)], [])) (fun kl102 hkl102 t5 => ?_) FU ((0 : Int32), v4, (0 : Int32))
            refine vv_iload 104 hk dX10_nth_102 rfl rfl ?_
            refine vv_iload_n (i := 2) 105 hk dX10_nth_104 rfl rfl rfl ?_
            refine vv_icmp_ge 140 108 hk dX10_nth_105 rfl rfl ?_ ?_
            · skip
              refine vv_iload 142 hk dX10_nth_140 rfl rfl ?_
              exact hret _ _ _ _ dX10_nth_142
            · skip
              refine vv_iload 110 hk dX10_nth_108 rfl rfl ?_
              refine vv_bipush 112 hk dX10_nth_110 rfl bp_m9 ?_
              refine vv_icmp_eq 140 115 hk dX10_nth_112 rfl rfl ?_ ?_
              · skip
                refine vv_iload 142 hk dX10_nth_140 rfl rfl ?_
                exact hret _ _ _ _ dX10_nth_142
              · skip
                refine vv_iload 117 hk dX10_nth_115 rfl rfl ?_
                refine vv_iconst 118 hk dX10_nth_117 rfl ic_1 ?_
                refine vv_iload 120 hk dX10_nth_118 rfl rfl ?_
                refine vv_ishl 121 hk dX10_nth_120 rfl ?_
                refine vv_ior 122 hk dX10_nth_121 rfl ?_
                refine vv_istoreL 124 (fun x6 => [some (rf G 52), some (.int a1), some (.int a2), some (.int a3), none, some (.int x6), some (.int t5.2.1), some (.int t5.2.2)]) hk dX10_nth_122 rfl rfl (fun _ => rfl) (fun x6 => ?_)
                refine vv_aload_n (i := 0) 125 hk dX10_nth_124 rfl rfl rfl ?_
                refine vv_iload_n (i := 1) 126 hk dX10_nth_125 rfl rfl rfl ?_
                refine vv_iload 128 hk dX10_nth_126 rfl rfl ?_
                refine vv_iload_n (i := 3) 129 hk dX10_nth_128 rfl rfl rfl ?_
                refine vv_invIr (st := []) 132 hk he dX10_nth_129 rfl ml_10_19 cf_X10_next la_52 ci_10 (c_X10_next G a1 x6 a3 t3) rfl rfl rfl rfl (fun v7 => ?_)
                refine vv_istore 134 [some (rf G 52), some (.int a1), some (.int a2), some (.int a3), none, some (.int x6), some (.int v7), some (.int t5.2.2)] hk dX10_nth_132 rfl rfl rfl ?_
                refine vv_iinc 137 (fun x8 => [some (rf G 52), some (.int a1), some (.int a2), some (.int a3), none, some (.int x6), some (.int v7), some (.int x8)]) hk dX10_nth_134 rfl rfl ic_1 (fun _ => rfl) (fun x8 => ?_)
                refine vv_goto 102 hk dX10_nth_137 rfl ?_
                exact vv_le (ll_s rfl (ll_s rfl (ll_s rfl (ll_s rfl (ll_n (ll_s rfl (ll_s rfl (ll_s rfl ll_0)))))))) (hkl102 (x6, v7, x8))
          · skip
            refine vv_le (L' := [some (rf G 52), some (.int a1), some (.int a2), some (.int a3), none, some (.int x2), none, none]) (ll_s rfl (ll_s rfl (ll_s rfl (ll_s rfl (ll_n (ll_s rfl (ll_n (ll_n ll_0)))))))) ?_
            refine vv_lp (fun t9 => (t9.2, 41, [some (rf G 52), some (.int a1), some (.int a2), some (.int a3), none, some (.int t9.1), none, none], [])) (fun kl41 hkl41 t9 => ?_) FU (x2, σ1)
            refine vv_iload 43 hk dX10_nth_41 rfl rfl ?_
            refine vv_if_le 86 46 hk dX10_nth_43 rfl rfl ?_ ?_
            · skip
              exact vv_le (ll_s rfl (ll_s rfl (ll_s rfl (ll_s rfl (ll_n (ll_n (ll_n (ll_n ll_0)))))))) (hk86 t9.2)
            · skip
              refine vv_iload 48 hk dX10_nth_46 rfl rfl ?_
              refine vv_iload_n (i := 1) 49 hk dX10_nth_48 rfl rfl rfl ?_
              refine vv_iconst 50 hk dX10_nth_49 rfl ic_m1 ?_
              refine vv_ixor 51 hk dX10_nth_50 rfl ?_
              refine vv_iand 52 hk dX10_nth_51 rfl ?_
              refine vv_jn (fun t10 => (t10, 80, [some (rf G 52), some (.int a1), some (.int a2), some (.int a3), none, some (.int t9.1), none, none], [])) (fun t10 => ?_) (fun k80 hk80 => ?_)
              · skip
                refine vv_iinc 83 (fun x11 => [some (rf G 52), some (.int a1), some (.int a2), some (.int a3), none, some (.int x11), none, none]) hk dX10_nth_80 rfl rfl ic_m1 (fun _ => rfl) (fun x11 => ?_)
                refine vv_goto 41 hk dX10_nth_83 rfl ?_
                exact vv_le (ll_s rfl (ll_s rfl (ll_s rfl (ll_s rfl (ll_n (ll_s rfl (ll_n (ll_n ll_0)))))))) (hkl41 (x11, t10))
              · skip
                refine vv_if_ne 80 55 hk dX10_nth_52 rfl rfl ?_ ?_
                · skip
                  refine vv_aload_n (i := 0) 56 hk dX10_nth_55 rfl rfl rfl ?_
                  refine vv_getR 59 hk dX10_nth_56 rfl la_52 rfl ci_10 rfl fl_10_9 ?_
                  refine vv_iload 61 hk dX10_nth_59 rfl rfl ?_
                  refine vv_aload_n (i := 0) 62 hk dX10_nth_61 rfl rfl rfl ?_
                  refine vv_iload_n (i := 1) 63 hk dX10_nth_62 rfl rfl rfl ?_
                  refine vv_iload 65 hk dX10_nth_63 rfl rfl ?_
                  refine vv_iload_n (i := 3) 66 hk dX10_nth_65 rfl rfl rfl ?_
                  refine vv_invIr (st := [(.int t9.1), (rf G 53)]) 69 hk he dX10_nth_66 rfl ml_10_19 cf_X10_next la_52 ci_10 (c_X10_next G a1 t9.1 a3 t9.2) rfl rfl rfl rfl (fun v12 => ?_)
                  refine vv_bipush 71 hk dX10_nth_69 rfl bp_m9 ?_
                  refine vv_jn (fun t13 => (t9.2, 79, [some (rf G 52), some (.int a1), some (.int a2), some (.int a3), none, some (.int t9.1), none, none], [(.int t13), (.int t9.1), (rf G 53)])) (fun t13 => ?_) (fun k79 hk79 => ?_)
                  · skip
                    refine vv_zast 80 hk he dX10_nth_79 rfl la_53 sd_53 (fun σ14 => ?_)
                    exact vv_le (ll_s rfl (ll_s rfl (ll_s rfl (ll_s rfl (ll_n (ll_s rfl (ll_n (ll_n ll_0)))))))) (hk80 σ14)
                  · skip
                    refine vv_icmp_eq 78 74 hk dX10_nth_71 rfl rfl ?_ ?_
                    · skip
                      refine vv_iconst 79 hk dX10_nth_78 rfl ic_0 ?_
                      exact vv_le (ll_s rfl (ll_s rfl (ll_s rfl (ll_s rfl (ll_n (ll_s rfl (ll_n (ll_n ll_0)))))))) (hk79 (0 : Int32))
                    · skip
                      refine vv_iconst 75 hk dX10_nth_74 rfl ic_1 ?_
                      refine vv_goto 79 hk dX10_nth_75 rfl ?_
                      exact vv_le (ll_s rfl (ll_s rfl (ll_s rfl (ll_s rfl (ll_n (ll_s rfl (ll_n (ll_n ll_0)))))))) (hk79 (1 : Int32))
                · skip
                  exact vv_le (ll_s rfl (ll_s rfl (ll_s rfl (ll_s rfl (ll_n (ll_s rfl (ll_n (ll_n ll_0)))))))) (hk80 t9.2)
        · skip
          refine vv_bipush 28 hk dX10_nth_26 rfl bp_m9 ?_
          exact hret _ _ _ _ dX10_nth_28
      · skip
        refine vv_bipush 28 hk dX10_nth_26 rfl bp_m9 ?_
        exact hret _ _ _ _ dX10_nth_28
theorem c_X5_addPipe (G : GT) (a1 : Int32) (a2 : Int32) (a3 : Int32) (σ : Hp) : CtI G true yX5_addPipe cX5_addPipe 4 (some .int) 0 [(rf G 1), (.int a1), (.int a2), (.int a3)] (f_X5_addPipe a1 a2 a3 σ) σ := by
  refine ctI (L0 := [some (rf G 1), some (.int a1), some (.int a2), some (.int a3)]) (by decide +kernel) rfl rfl rfl (fun κ hk he hret => ?_)
  have hk : KO G κ cX5_addPipe RX5 0 := hk
  refine vv_aload_n (i := 0) 1 hk dX5_addPipe_0 rfl rfl rfl ?_
  refine vv_getI 4 hk he dX5_addPipe_1 rfl la_1 rfl ci_5 rfl fl_5_49 sd_1 ?_
  refine vv_bipush 6 hk dX5_addPipe_4 rfl bp_12 ?_
  refine vv_icmp_lt 12 9 hk dX5_addPipe_6 rfl rfl ?_ ?_
  · skip
    refine vv_aload_n (i := 0) 13 hk dX5_addPipe_12 rfl rfl rfl ?_
    refine vv_getR 16 hk dX5_addPipe_13 rfl la_1 rfl ci_5 rfl fl_5_27 ?_
    refine vv_aload_n (i := 0) 17 hk dX5_addPipe_16 rfl rfl rfl ?_
    refine vv_getI 20 hk he dX5_addPipe_17 rfl la_1 rfl ci_5 rfl fl_5_49 sd_1 ?_
    refine vv_iload_n (i := 1) 21 hk dX5_addPipe_20 rfl rfl rfl ?_
    refine vv_iast 22 hk he dX5_addPipe_21 rfl la_7 sd_7 (fun σ1 => ?_)
    refine vv_aload_n (i := 0) 23 hk dX5_addPipe_22 rfl rfl rfl ?_
    refine vv_getR 26 hk dX5_addPipe_23 rfl la_1 rfl ci_5 rfl fl_5_30 ?_
    refine vv_aload_n (i := 0) 27 hk dX5_addPipe_26 rfl rfl rfl ?_
    refine vv_getI 30 hk he dX5_addPipe_27 rfl la_1 rfl ci_5 rfl fl_5_49 sd_1 ?_
    refine vv_iload_n (i := 2) 31 hk dX5_addPipe_30 rfl rfl rfl ?_
    refine vv_iast 32 hk he dX5_addPipe_31 rfl la_8 sd_8 (fun σ2 => ?_)
    refine vv_aload_n (i := 0) 33 hk dX5_addPipe_32 rfl rfl rfl ?_
    refine vv_getR 36 hk dX5_addPipe_33 rfl la_1 rfl ci_5 rfl fl_5_33 ?_
    refine vv_aload_n (i := 0) 37 hk dX5_addPipe_36 rfl rfl rfl ?_
    refine vv_getI 40 hk he dX5_addPipe_37 rfl la_1 rfl ci_5 rfl fl_5_49 sd_1 ?_
    refine vv_iload_n (i := 3) 41 hk dX5_addPipe_40 rfl rfl rfl ?_
    refine vv_iast 42 hk he dX5_addPipe_41 rfl la_9 sd_9 (fun σ3 => ?_)
    refine vv_aload_n (i := 0) 43 hk dX5_addPipe_42 rfl rfl rfl ?_
    refine vv_dup 44 hk dX5_addPipe_43 rfl rfl ?_
    refine vv_getI 47 hk he dX5_addPipe_44 rfl la_1 rfl ci_5 rfl fl_5_49 sd_1 ?_
    refine vv_dup_x1 48 hk dX5_addPipe_47 rfl rfl rfl ?_
    refine vv_iconst 49 hk dX5_addPipe_48 rfl ic_1 ?_
    refine vv_iadd 50 hk dX5_addPipe_49 rfl ?_
    refine vv_putI 53 hk he dX5_addPipe_50 rfl la_1 rfl ci_5 rfl fl_5_49 sd_1 rfl rfl (fun σ4 => ?_)
    exact hret _ _ _ _ dX5_addPipe_53
  · skip
    refine vv_bipush 11 hk dX5_addPipe_9 rfl bp_m9 ?_
    exact hret _ _ _ _ dX5_addPipe_11
theorem c_X7_join (G : GT) (a1 : Int32) (σ : Hp) : CtV G true yX7_join cX7_join 3 none 0 [(rf G 54), (.int a1)] (f_X7_join a1 σ) σ := by
  refine ctV (L0 := [some (rf G 54), some (.int a1), none]) (by decide +kernel) rfl rfl rfl (fun κ hk he hret => ?_)
  have hk : KO G κ cX7_join RX7 0 := hk
  refine vv_iconst 1 hk dX7_join_0 rfl ic_0 ?_
  refine vv_istore_n (i := 2) 2 [some (rf G 54), some (.int a1), some (.int (0 : Int32))] hk dX7_join_1 rfl rfl rfl rfl ?_
  refine vv_lp (fun t1 => (t1.2, 2, [some (rf G 54), some (.int a1), some (.int t1.1)], [])) (fun kl2 hkl2 t1 => ?_) FU ((0 : Int32), σ)
  refine vv_iload_n (i := 2) 3 hk dX7_join_2 rfl rfl rfl ?_
  refine vv_iconst 4 hk dX7_join_3 rfl ic_5 ?_
  refine vv_icmp_ge 29 7 hk dX7_join_4 rfl rfl ?_ ?_
  · skip
    exact hret _ _ _ dX7_join_29
  · skip
    refine vv_iload_n (i := 1) 8 hk dX7_join_7 rfl rfl rfl ?_
    refine vv_iload_n (i := 2) 9 hk dX7_join_8 rfl rfl rfl ?_
    refine vv_ishr 10 hk dX7_join_9 rfl ?_
    refine vv_iconst 11 hk dX7_join_10 rfl ic_1 ?_
    refine vv_iand 12 hk dX7_join_11 rfl ?_
    refine vv_iconst 13 hk dX7_join_12 rfl ic_1 ?_
    refine vv_jn (fun t2 => (t2, 23, [some (rf G 54), some (.int a1), some (.int t1.1)], [])) (fun t2 => ?_) (fun k23 hk23 => ?_)
    · skip
      refine vv_iinc 26 (fun x3 => [some (rf G 54), some (.int a1), some (.int x3)]) hk dX7_join_23 rfl rfl ic_1 (fun _ => rfl) (fun x3 => ?_)
      refine vv_goto 2 hk dX7_join_26 rfl ?_
      exact vv_le (ll_s rfl (ll_s rfl (ll_s rfl ll_0))) (hkl2 (x3, t2))
    · skip
      refine vv_icmp_ne 23 16 hk dX7_join_13 rfl rfl ?_ ?_
      · skip
        refine vv_aload_n (i := 0) 17 hk dX7_join_16 rfl rfl rfl ?_
        refine vv_getR 20 hk dX7_join_17 rfl la_54 rfl ci_7 rfl fl_7_15 ?_
        refine vv_iload_n (i := 2) 21 hk dX7_join_20 rfl rfl rfl ?_
        refine vv_iload_n (i := 1) 22 hk dX7_join_21 rfl rfl rfl ?_
        refine vv_iast 23 hk he dX7_join_22 rfl la_56 sd_56 (fun σ4 => ?_)
        exact vv_le (ll_s rfl (ll_s rfl (ll_s rfl ll_0))) (hk23 σ4)
      · skip
        exact vv_le (ll_s rfl (ll_s rfl (ll_s rfl ll_0))) (hk23 t1.2)
theorem c_X7_findReached (G : GT) (σ : Hp) : CtV G true yX7_findReached cX7_findReached 2 none 1 [(rf G 54)] (f_X7_findReached σ) σ := by
  refine ctV (L0 := [some (rf G 54), none]) (by decide +kernel) rfl rfl rfl (fun κ hk he hret => ?_)
  have hk : KO G κ cX7_findReached RX7 1 := hk
  refine vv_iconst 1 hk dX7_findReached_0 rfl ic_0 ?_
  refine vv_istore_n (i := 1) 2 [some (rf G 54), some (.int (0 : Int32))] hk dX7_findReached_1 rfl rfl rfl rfl ?_
  refine vv_jn (fun t1 => (t1, 22, [some (rf G 54), none], [])) (fun t1 => ?_) (fun k22 hk22 => ?_)
  · skip
    refine vv_iconst 23 hk dX7_findReached_22 rfl ic_0 ?_
    refine vv_istore_n (i := 1) 24 [some (rf G 54), some (.int (0 : Int32))] hk dX7_findReached_23 rfl rfl rfl rfl ?_
    refine vv_lp (fun t2 => (t2.2, 24, [some (rf G 54), some (.int t2.1)], [])) (fun kl24 hkl24 t2 => ?_) FU ((0 : Int32), t1)
    refine vv_iload_n (i := 1) 25 hk dX7_findReached_24 rfl rfl rfl ?_
    refine vv_aload_n (i := 0) 26 hk dX7_findReached_25 rfl rfl rfl ?_
    refine vv_getR 29 hk dX7_findReached_26 rfl la_54 rfl ci_7 rfl fl_7_37 ?_
    refine vv_getI 32 hk he dX7_findReached_29 rfl la_1 rfl ci_5 rfl fl_7_90 sd_1 ?_
    refine vv_icmp_ge 89 35 hk dX7_findReached_32 rfl rfl ?_ ?_
    · skip
      exact hret _ _ _ dX7_findReached_89
    · skip
      refine vv_aload_n (i := 0) 36 hk dX7_findReached_35 rfl rfl rfl ?_
      refine vv_getR 39 hk dX7_findReached_36 rfl la_54 rfl ci_7 rfl fl_7_37 ?_
      refine vv_getI 42 hk he dX7_findReached_39 rfl la_1 rfl ci_5 rfl fl_7_93 sd_1 ?_
      refine vv_iload_n (i := 1) 43 hk dX7_findReached_42 rfl rfl rfl ?_
      refine vv_ishr 44 hk dX7_findReached_43 rfl ?_
      refine vv_iconst 45 hk dX7_findReached_44 rfl ic_1 ?_
      refine vv_iand 46 hk dX7_findReached_45 rfl ?_
      refine vv_iconst 47 hk dX7_findReached_46 rfl ic_1 ?_
      refine vv_jn (fun t3 => (t3, 83, [some (rf G 54), some (.int t2.1)], [])) (fun t3 => ?_) (fun k83 hk83 => ?_)
      · skip
        refine vv_iinc 86 (fun x4 => [some (rf G 54), some (.int x4)]) hk dX7_findReached_83 rfl rfl ic_1 (fun _ => rfl) (fun x4 => ?_)
        refine vv_goto 24 hk dX7_findReached_86 rfl ?_
        exact vv_le (ll_s rfl (ll_s rfl ll_0)) (hkl24 (x4, t3))
      · skip
        refine vv_icmp_ne 83 50 hk dX7_findReached_47 rfl rfl ?_ ?_
        · skip
          refine vv_aload_n (i := 0) 51 hk dX7_findReached_50 rfl rfl rfl ?_
          refine vv_aload_n (i := 0) 52 hk dX7_findReached_51 rfl rfl rfl ?_
          refine vv_getR 55 hk dX7_findReached_52 rfl la_54 rfl ci_7 rfl fl_7_15 ?_
          refine vv_aload_n (i := 0) 56 hk dX7_findReached_55 rfl rfl rfl ?_
          refine vv_getR 59 hk dX7_findReached_56 rfl la_54 rfl ci_7 rfl fl_7_37 ?_
          refine vv_getR 62 hk dX7_findReached_59 rfl la_1 rfl ci_5 rfl fl_7_96 ?_
          refine vv_iload_n (i := 1) 63 hk dX7_findReached_62 rfl rfl rfl ?_
          refine vv_iald 64 hk he dX7_findReached_63 rfl la_7 sd_7 (fun v5 => ?_)
          refine vv_iald 65 hk he dX7_findReached_64 rfl la_56 sd_56 (fun v6 => ?_)
          refine vv_aload_n (i := 0) 66 hk dX7_findReached_65 rfl rfl rfl ?_
          refine vv_getR 69 hk dX7_findReached_66 rfl la_54 rfl ci_7 rfl fl_7_15 ?_
          refine vv_aload_n (i := 0) 70 hk dX7_findReached_69 rfl rfl rfl ?_
          refine vv_getR 73 hk dX7_findReached_70 rfl la_54 rfl ci_7 rfl fl_7_37 ?_
          refine vv_getR 76 hk dX7_findReached_73 rfl la_1 rfl ci_5 rfl fl_7_99 ?_
          refine vv_iload_n (i := 1) 77 hk dX7_findReached_76 rfl rfl rfl ?_
          refine vv_iald 78 hk he dX7_findReached_77 rfl la_8 sd_8 (fun v7 => ?_)
          refine vv_iald 79 hk he dX7_findReached_78 rfl la_56 sd_56 (fun v8 => ?_)
          refine vv_ior 80 hk dX7_findReached_79 rfl ?_
          refine vv_invV (st := []) 83 hk he dX7_findReached_80 rfl ml_7_102 cf_X7_join la_54 ci_7 (c_X7_join G (v6 ||| v8) t2.2) rfl rfl rfl rfl (fun σ9 => ?_)
          exact vv_le (ll_s rfl (ll_s rfl ll_0)) (hk83 σ9)
        · skip
          exact vv_le (ll_s rfl (ll_s rfl ll_0)) (hk83 t2.2)
  · skip
    refine vv_lp (fun t10 => (t10.2, 2, [some (rf G 54), some (.int t10.1)], [])) (fun kl2 hkl2 t10 => ?_) FU ((0 : Int32), σ)
    refine vv_iload_n (i := 1) 3 hk dX7_findReached_2 rfl rfl rfl ?_
    refine vv_iconst 4 hk dX7_findReached_3 rfl ic_5 ?_
    refine vv_icmp_ge 22 7 hk dX7_findReached_4 rfl rfl ?_ ?_
    · skip
      exact vv_le (ll_s rfl (ll_n ll_0)) (hk22 t10.2)
    · skip
      refine vv_aload_n (i := 0) 8 hk dX7_findReached_7 rfl rfl rfl ?_
      refine vv_getR 11 hk dX7_findReached_8 rfl la_54 rfl ci_7 rfl fl_7_15 ?_
      refine vv_iload_n (i := 1) 12 hk dX7_findReached_11 rfl rfl rfl ?_
      refine vv_iconst 13 hk dX7_findReached_12 rfl ic_1 ?_
      refine vv_iload_n (i := 1) 14 hk dX7_findReached_13 rfl rfl rfl ?_
      refine vv_ishl 15 hk dX7_findReached_14 rfl ?_
      refine vv_iast 16 hk he dX7_findReached_15 rfl la_56 sd_56 (fun σ11 => ?_)
      refine vv_iinc 19 (fun x12 => [some (rf G 54), some (.int x12)]) hk dX7_findReached_16 rfl rfl ic_1 (fun _ => rfl) (fun x12 => ?_)
      refine vv_goto 2 hk dX7_findReached_19 rfl ?_
      exact vv_le (ll_s rfl (ll_s rfl ll_0)) (hkl2 (x12, σ11))
theorem c_X7_leakyRooms (G : GT) (σ : Hp) : CtI G true yX7_leakyRooms cX7_leakyRooms 3 (some .int) 0 [(rf G 54)] (rdI (f_X7_leakyRooms σ) σ) σ := by
  refine ctIr (L0 := [some (rf G 54), none, none]) (by decide +kernel) rfl rfl rfl (fun κ hk he hret => ?_)
  have hk : KO G κ cX7_leakyRooms RX7 0 := hk
  refine vv_iconst 1 hk dX7_leakyRooms_0 rfl ic_0 ?_
  refine vv_istore_n (i := 1) 2 [some (rf G 54), some (.int (0 : Int32)), none] hk dX7_leakyRooms_1 rfl rfl rfl rfl ?_
  refine vv_iconst 3 hk dX7_leakyRooms_2 rfl ic_0 ?_
  refine vv_istore_n (i := 2) 4 [some (rf G 54), some (.int (0 : Int32)), some (.int (0 : Int32))] hk dX7_leakyRooms_3 rfl rfl rfl rfl ?_
  refine vv_lp (fun t1 => (σ, 4, [some (rf G 54), some (.int t1.1), some (.int t1.2)], [])) (fun kl4 hkl4 t1 => ?_) FU ((0 : Int32), (0 : Int32))
  refine vv_iload_n (i := 2) 5 hk dX7_leakyRooms_4 rfl rfl rfl ?_
  refine vv_aload_n (i := 0) 6 hk dX7_leakyRooms_5 rfl rfl rfl ?_
  refine vv_getR 9 hk dX7_leakyRooms_6 rfl la_54 rfl ci_7 rfl fl_7_37 ?_
  refine vv_getI 12 hk he dX7_leakyRooms_9 rfl la_1 rfl ci_5 rfl fl_7_82 sd_1 ?_
  refine vv_icmp_ge 48 15 hk dX7_leakyRooms_12 rfl rfl ?_ ?_
  · skip
    refine vv_iload_n (i := 1) 49 hk dX7_leakyRooms_48 rfl rfl rfl ?_
    exact hret _ _ _ dX7_leakyRooms_49
  · skip
    refine vv_iload_n (i := 1) 16 hk dX7_leakyRooms_15 rfl rfl rfl ?_
    refine vv_aload_n (i := 0) 17 hk dX7_leakyRooms_16 rfl rfl rfl ?_
    refine vv_getR 20 hk dX7_leakyRooms_17 rfl la_54 rfl ci_7 rfl fl_7_37 ?_
    refine vv_getR 23 hk dX7_leakyRooms_20 rfl la_1 rfl ci_5 rfl fl_7_87 ?_
    refine vv_iload_n (i := 2) 24 hk dX7_leakyRooms_23 rfl rfl rfl ?_
    refine vv_iconst 25 hk dX7_leakyRooms_24 rfl ic_3 ?_
    refine vv_imul 26 hk dX7_leakyRooms_25 rfl ?_
    refine vv_iald 27 hk he dX7_leakyRooms_26 rfl la_6 sd_6 (fun v2 => ?_)
    refine vv_jn (fun t3 => (σ, 40, [some (rf G 54), none, some (.int t1.2)], [(.int t3), (.int t1.1)])) (fun t3 => ?_) (fun k40 hk40 => ?_)
    · skip
      refine vv_ior 41 hk dX7_leakyRooms_40 rfl ?_
      refine vv_istore_nL (i := 1) 42 (fun x4 => [some (rf G 54), some (.int x4), some (.int t1.2)]) hk dX7_leakyRooms_41 rfl rfl rfl (fun _ => rfl) (fun x4 => ?_)
      refine vv_iinc 45 (fun x5 => [some (rf G 54), some (.int x4), some (.int x5)]) hk dX7_leakyRooms_42 rfl rfl ic_1 (fun _ => rfl) (fun x5 => ?_)
      refine vv_goto 4 hk dX7_leakyRooms_45 rfl ?_
      exact vv_le (ll_s rfl (ll_s rfl (ll_s rfl ll_0))) (hkl4 (x4, x5))
    · skip
      refine vv_if_le 39 30 hk dX7_leakyRooms_27 rfl rfl ?_ ?_
      · skip
        refine vv_iconst 40 hk dX7_leakyRooms_39 rfl ic_0 ?_
        exact vv_le (ll_s rfl (ll_n (ll_s rfl ll_0))) (hk40 (0 : Int32))
      · skip
        refine vv_aload_n (i := 0) 31 hk dX7_leakyRooms_30 rfl rfl rfl ?_
        refine vv_getR 34 hk dX7_leakyRooms_31 rfl la_54 rfl ci_7 rfl fl_7_15 ?_
        refine vv_iload_n (i := 2) 35 hk dX7_leakyRooms_34 rfl rfl rfl ?_
        refine vv_iald 36 hk he dX7_leakyRooms_35 rfl la_56 sd_56 (fun v6 => ?_)
        refine vv_goto 40 hk dX7_leakyRooms_36 rfl ?_
        exact vv_le (ll_s rfl (ll_n (ll_s rfl ll_0))) (hk40 v6)
theorem c_X7_priceOf (G : GT) (a1 : Int32) (σ : Hp) : CtI G true yX7_priceOf cX7_priceOf 4 (some .int) 0 [(rf G 54), (.int a1)] (rdI (f_X7_priceOf a1 σ) σ) σ := by
  refine ctIr (L0 := [some (rf G 54), some (.int a1), none, none]) (by decide +kernel) rfl rfl rfl (fun κ hk he hret => ?_)
  have hk : KO G κ cX7_priceOf RX7 0 := hk
  refine vv_iconst 1 hk dX7_priceOf_0 rfl ic_0 ?_
  refine vv_istore_n (i := 2) 2 [some (rf G 54), some (.int a1), some (.int (0 : Int32)), none] hk dX7_priceOf_1 rfl rfl rfl rfl ?_
  refine vv_iconst 3 hk dX7_priceOf_2 rfl ic_0 ?_
  refine vv_istore_n (i := 3) 4 [some (rf G 54), some (.int a1), some (.int (0 : Int32)), some (.int (0 : Int32))] hk dX7_priceOf_3 rfl rfl rfl rfl ?_
  refine vv_lp (fun t1 => (σ, 4, [some (rf G 54), some (.int a1), some (.int t1.1), some (.int t1.2)], [])) (fun kl4 hkl4 t1 => ?_) FU ((0 : Int32), (0 : Int32))
  refine vv_iload_n (i := 3) 5 hk dX7_priceOf_4 rfl rfl rfl ?_
  refine vv_aload_n (i := 0) 6 hk dX7_priceOf_5 rfl rfl rfl ?_
  refine vv_getI 9 hk he dX7_priceOf_6 rfl la_54 rfl ci_7 rfl fl_7_41 sd_54 ?_
  refine vv_icmp_ge 33 12 hk dX7_priceOf_9 rfl rfl ?_ ?_
  · skip
    refine vv_iload_n (i := 2) 34 hk dX7_priceOf_33 rfl rfl rfl ?_
    exact hret _ _ _ dX7_priceOf_34
  · skip
    refine vv_iload_n (i := 2) 13 hk dX7_priceOf_12 rfl rfl rfl ?_
    refine vv_iload_n (i := 1) 14 hk dX7_priceOf_13 rfl rfl rfl ?_
    refine vv_iload_n (i := 3) 15 hk dX7_priceOf_14 rfl rfl rfl ?_
    refine vv_ishr 16 hk dX7_priceOf_15 rfl ?_
    refine vv_iconst 17 hk dX7_priceOf_16 rfl ic_1 ?_
    refine vv_iand 18 hk dX7_priceOf_17 rfl ?_
    refine vv_aload_n (i := 0) 19 hk dX7_priceOf_18 rfl rfl rfl ?_
    refine vv_getR 22 hk dX7_priceOf_19 rfl la_54 rfl ci_7 rfl fl_7_34 ?_
    refine vv_iload_n (i := 3) 23 hk dX7_priceOf_22 rfl rfl rfl ?_
    refine vv_iald 24 hk he dX7_priceOf_23 rfl la_62 sd_62 (fun v2 => ?_)
    refine vv_imul 25 hk dX7_priceOf_24 rfl ?_
    refine vv_iadd 26 hk dX7_priceOf_25 rfl ?_
    refine vv_istore_nL (i := 2) 27 (fun x3 => [some (rf G 54), some (.int a1), some (.int x3), some (.int t1.2)]) hk dX7_priceOf_26 rfl rfl rfl (fun _ => rfl) (fun x3 => ?_)
    refine vv_iinc 30 (fun x4 => [some (rf G 54), some (.int a1), some (.int x3), some (.int x4)]) hk dX7_priceOf_27 rfl rfl ic_1 (fun _ => rfl) (fun x4 => ?_)
    refine vv_goto 4 hk dX7_priceOf_30 rfl ?_
    exact vv_le (ll_s rfl (ll_s rfl (ll_s rfl (ll_s rfl ll_0)))) (hkl4 (x3, x4))
theorem c_X7_determinant (G : GT) (a1 : Int32) (σ : Hp) : CtJ G true yX7_determinant cX7_determinant 12 (some .long) 1 [(rf G 54), (.int a1)] (f_X7_determinant a1 σ) σ := by
  refine ctJ (L0 := [some (rf G 54), some (.int a1), none, none, none, none, none, none, none, none, none, none]) (by decide +kernel) rfl rfl rfl (fun κ hk he hret => ?_)
  have hk : KO G κ cX7_determinant RX7 1 := hk
  refine vv_aload_n (i := 0) 1 hk dX7_determinant_0 rfl rfl rfl ?_
  refine vv_getR 4 hk dX7_determinant_1 rfl la_54 rfl ci_7 rfl fl_7_25 ?_
  refine vv_iconst 5 hk dX7_determinant_4 rfl ic_0 ?_
  refine vv_lconst 6 hk dX7_determinant_5 rfl lc_1 ?_
  refine vv_last 7 hk he dX7_determinant_6 rfl la_59 sd_59 (fun σ1 => ?_)
  refine vv_iconst 8 hk dX7_determinant_7 rfl ic_1 ?_
  refine vv_istore_n (i := 2) 9 [some (rf G 54), some (.int a1), some (.int (1 : Int32)), none, none, none, none, none, none, none, none, none] hk dX7_determinant_8 rfl rfl rfl rfl ?_
  refine vv_jn (fun t2 => (t2, 148, [some (rf G 54), none, none, none, none, none, none, none, none, none, none, none], [])) (fun t2 => ?_) (fun k148 hk148 => ?_)
  · skip
    refine vv_aload_n (i := 0) 149 hk dX7_determinant_148 rfl rfl rfl ?_
    refine vv_getR 152 hk dX7_determinant_149 rfl la_54 rfl ci_7 rfl fl_7_25 ?_
    refine vv_aload_n (i := 0) 153 hk dX7_determinant_152 rfl rfl rfl ?_
    refine vv_getR 156 hk dX7_determinant_153 rfl la_54 rfl ci_7 rfl fl_7_25 ?_
    refine vv_alen 157 hk dX7_determinant_156 rfl la_59 rfl al_32 ?_
    refine vv_iconst 158 hk dX7_determinant_157 rfl ic_1 ?_
    refine vv_isub 159 hk dX7_determinant_158 rfl ?_
    refine vv_lald 160 hk he dX7_determinant_159 rfl la_59 sd_59 (fun v3 => ?_)
    exact hret _ _ _ _ dX7_determinant_160
  · skip
    refine vv_lp (fun t4 => (t4.2, 9, [some (rf G 54), some (.int a1), some (.int t4.1), none, none, none, none, none, none, none, none, none], [])) (fun kl9 hkl9 t4 => ?_) FU ((1 : Int32), σ1)
    refine vv_iload_n (i := 2) 10 hk dX7_determinant_9 rfl rfl rfl ?_
    refine vv_aload_n (i := 0) 11 hk dX7_determinant_10 rfl rfl rfl ?_
    refine vv_getR 14 hk dX7_determinant_11 rfl la_54 rfl ci_7 rfl fl_7_25 ?_
    refine vv_alen 15 hk dX7_determinant_14 rfl la_59 rfl al_32 ?_
    refine vv_icmp_ge 148 18 hk dX7_determinant_15 rfl rfl ?_ ?_
    · skip
      exact vv_le (ll_s rfl (ll_n (ll_n (ll_n (ll_n (ll_n (ll_n (ll_n (ll_n (ll_n (ll_n (ll_n ll_0)))))))))))) (hk148 t4.2)
    · skip
      refine vv_iload_n (i := 2) 19 hk dX7_determinant_18 rfl rfl rfl ?_
      refine vv_staIr (st := []) 22 hk he dX7_determinant_19 rfl ml_7_126 sf_J6_bitCount_0f7a4 (c_J6_bitCount_0f7a4 G t4.1 t4.2) rfl rfl rfl rfl (fun v5 => ?_)
      refine vv_iconst 23 hk dX7_determinant_22 rfl ic_1 ?_
      refine vv_isub 24 hk dX7_determinant_23 rfl ?_
      refine vv_istore_nL (i := 3) 25 (fun x6 => [some (rf G 54), some (.int a1), some (.int t4.1), some (.int x6), none, none, none, none, none, none, none, none]) hk dX7_determinant_24 rfl rfl rfl (fun _ => rfl) (fun x6 => ?_)
      refine vv_lconst 26 hk dX7_determinant_25 rfl lc_0 ?_
      refine vv_lstore 28 [some (rf G 54), some (.int a1), some (.int t4.1), some (.int x6), some (.long (0 : Int64)), none, none, none, none, none, none, none] hk dX7_determinant_26 rfl rfl rfl ?_
      refine vv_iconst 29 hk dX7_determinant_28 rfl ic_0 ?_
      refine vv_istore 31 [some (rf G 54), some (.int a1), some (.int t4.1), some (.int x6), some (.long (0 : Int64)), none, some (.int (0 : Int32)), none, none, none, none, none] hk dX7_determinant_29 rfl rfl rfl ?_
      refine vv_jn (fun t7 => (t4.2, 134, [some (rf G 54), some (.int a1), some (.int t4.1), none, some (.long t7), none, none, none, none, none, none, none], [])) (fun t7 => ?_) (fun k134 hk134 => ?_)
      · skip
        refine vv_aload_n (i := 0) 135 hk dX7_determinant_134 rfl rfl rfl ?_
        refine vv_getR 138 hk dX7_determinant_135 rfl la_54 rfl ci_7 rfl fl_7_25 ?_
        refine vv_iload_n (i := 2) 139 hk dX7_determinant_138 rfl rfl rfl ?_
        refine vv_lload 141 hk dX7_determinant_139 rfl rfl ?_
        refine vv_last 142 hk he dX7_determinant_141 rfl la_59 sd_59 (fun σ8 => ?_)
        refine vv_iinc 145 (fun x9 => [some (rf G 54), some (.int a1), some (.int x9), none, some (.long t7), none, none, none, none, none, none, none]) hk dX7_determinant_142 rfl rfl ic_1 (fun _ => rfl) (fun x9 => ?_)
        refine vv_goto 9 hk dX7_determinant_145 rfl ?_
        exact vv_le (ll_s rfl (ll_s rfl (ll_s rfl (ll_n (ll_n (ll_n (ll_n (ll_n (ll_n (ll_n (ll_n (ll_n ll_0)))))))))))) (hkl9 (x9, σ8))
      · skip
        refine vv_lp (fun t10 => (t4.2, 31, [some (rf G 54), some (.int a1), some (.int t4.1), some (.int x6), some (.long t10.1), none, some (.int t10.2), none, none, none, none, none], [])) (fun kl31 hkl31 t10 => ?_) FU ((0 : Int64), (0 : Int32))
        refine vv_iload 33 hk dX7_determinant_31 rfl rfl ?_
        refine vv_iconst 34 hk dX7_determinant_33 rfl ic_5 ?_
        refine vv_icmp_ge 134 37 hk dX7_determinant_34 rfl rfl ?_ ?_
        · skip
          exact vv_le (ll_s rfl (ll_s rfl (ll_s rfl (ll_n (ll_s rfl (ll_n (ll_n (ll_n (ll_n (ll_n (ll_n (ll_n ll_0)))))))))))) (hk134 t10.1)
        · skip
          refine vv_iload_n (i := 2) 38 hk dX7_determinant_37 rfl rfl rfl ?_
          refine vv_iload 40 hk dX7_determinant_38 rfl rfl ?_
          refine vv_ishr 41 hk dX7_determinant_40 rfl ?_
          refine vv_iconst 42 hk dX7_determinant_41 rfl ic_1 ?_
          refine vv_iand 43 hk dX7_determinant_42 rfl ?_
          refine vv_iconst 44 hk dX7_determinant_43 rfl ic_1 ?_
          refine vv_jn (fun t11 => (t4.2, 128, [some (rf G 54), some (.int a1), some (.int t4.1), some (.int x6), some (.long t11), none, some (.int t10.2), none, none, none, none, none], [])) (fun t11 => ?_) (fun k128 hk128 => ?_)
          · skip
            refine vv_iinc 131 (fun x12 => [some (rf G 54), some (.int a1), some (.int t4.1), some (.int x6), some (.long t11), none, some (.int x12), none, none, none, none, none]) hk dX7_determinant_128 rfl rfl ic_1 (fun _ => rfl) (fun x12 => ?_)
            refine vv_goto 31 hk dX7_determinant_131 rfl ?_
            exact vv_le (ll_s rfl (ll_s rfl (ll_s rfl (ll_s rfl (ll_s rfl (ll_n (ll_s rfl (ll_n (ll_n (ll_n (ll_n (ll_n ll_0)))))))))))) (hkl31 (t11, x12))
          · skip
            refine vv_icmp_ne 128 47 hk dX7_determinant_44 rfl rfl ?_ ?_
            · skip
              refine vv_iload 49 hk dX7_determinant_47 rfl rfl ?_
              refine vv_iload_n (i := 1) 50 hk dX7_determinant_49 rfl rfl rfl ?_
              refine vv_jn (fun t13 => (t4.2, 73, [some (rf G 54), some (.int a1), some (.int t4.1), some (.int x6), some (.long t10.1), none, some (.int t10.2), none, none, none, none, none], [(.long t13)])) (fun t13 => ?_) (fun k73 hk73 => ?_)
              · skip
                refine vv_lstore 75 [some (rf G 54), some (.int a1), some (.int t4.1), some (.int x6), some (.long t10.1), none, some (.int t10.2), some (.long t13), none, none, none, none] hk dX7_determinant_73 rfl rfl rfl ?_
                refine vv_lload 77 hk dX7_determinant_75 rfl rfl ?_
                refine vv_aload_n (i := 0) 78 hk dX7_determinant_77 rfl rfl rfl ?_
                refine vv_getR 81 hk dX7_determinant_78 rfl la_54 rfl ci_7 rfl fl_7_25 ?_
                refine vv_iload_n (i := 2) 82 hk dX7_determinant_81 rfl rfl rfl ?_
                refine vv_iconst 83 hk dX7_determinant_82 rfl ic_1 ?_
                refine vv_iload 85 hk dX7_determinant_83 rfl rfl ?_
                refine vv_ishl 86 hk dX7_determinant_85 rfl ?_
                refine vv_ixor 87 hk dX7_determinant_86 rfl ?_
                refine vv_lald 88 hk he dX7_determinant_87 rfl la_59 sd_59 (fun v14 => ?_)
                refine vv_lmul 89 hk dX7_determinant_88 rfl ?_
                refine vv_lstoreL 91 (fun x15 => [some (rf G 54), some (.int a1), some (.int t4.1), some (.int x6), some (.long t10.1), none, some (.int t10.2), some (.long t13), none, some (.long x15), none, none]) hk dX7_determinant_89 rfl rfl (fun _ => rfl) (fun x15 => ?_)
                refine vv_iload_n (i := 2) 92 hk dX7_determinant_91 rfl rfl rfl ?_
                refine vv_iload 94 hk dX7_determinant_92 rfl rfl ?_
                refine vv_ishr 95 hk dX7_determinant_94 rfl ?_
                refine vv_staIr (st := []) 98 hk he dX7_determinant_95 rfl ml_7_126 sf_J6_bitCount_0f7a4 (c_J6_bitCount_0f7a4 G (t4.1 >>> (t10.2 &&& 31)) t4.2) rfl rfl rfl rfl (fun v16 => ?_)
                refine vv_iconst 99 hk dX7_determinant_98 rfl ic_1 ?_
                refine vv_iand 100 hk dX7_determinant_99 rfl ?_
                refine vv_jn (fun t17 => (t4.2, 108, [some (rf G 54), some (.int a1), some (.int t4.1), some (.int x6), some (.long t10.1), none, some (.int t10.2), none, none, some (.long x15), none, none], [(.int t17)])) (fun t17 => ?_) (fun k108 hk108 => ?_)
                · skip
                  refine vv_istore 110 [some (rf G 54), some (.int a1), some (.int t4.1), some (.int x6), some (.long t10.1), none, some (.int t10.2), none, none, some (.long x15), none, some (.int t17)] hk dX7_determinant_108 rfl rfl rfl ?_
                  refine vv_lload 112 hk dX7_determinant_110 rfl rfl ?_
                  refine vv_iload 114 hk dX7_determinant_112 rfl rfl ?_
                  refine vv_jn (fun t18 => (t4.2, 125, [some (rf G 54), some (.int a1), some (.int t4.1), some (.int x6), none, none, some (.int t10.2), none, none, none, none, none], [(.long t18), (.long t10.1)])) (fun t18 => ?_) (fun k125 hk125 => ?_)
                  · skip
                    refine vv_ladd 126 hk dX7_determinant_125 rfl ?_
                    refine vv_lstoreL 128 (fun x19 => [some (rf G 54), some (.int a1), some (.int t4.1), some (.int x6), some (.long x19), none, some (.int t10.2), none, none, none, none, none]) hk dX7_determinant_126 rfl rfl (fun _ => rfl) (fun x19 => ?_)
                    exact vv_le (ll_s rfl (ll_s rfl (ll_s rfl (ll_s rfl (ll_s rfl (ll_n (ll_s rfl (ll_n (ll_n (ll_n (ll_n (ll_n ll_0)))))))))))) (hk128 x19)
                  · skip
                    refine vv_if_eq 123 117 hk dX7_determinant_114 rfl rfl ?_ ?_
                    · skip
                      refine vv_lload 125 hk dX7_determinant_123 rfl rfl ?_
                      exact vv_le (ll_s rfl (ll_s rfl (ll_s rfl (ll_s rfl (ll_n (ll_n (ll_s rfl (ll_n (ll_n (ll_n (ll_n (ll_n ll_0)))))))))))) (hk125 x15)
                    · skip
                      refine vv_lload 119 hk dX7_determinant_117 rfl rfl ?_
                      refine vv_lneg 120 hk dX7_determinant_119 rfl ?_
                      refine vv_goto 125 hk dX7_determinant_120 rfl ?_
                      exact vv_le (ll_s rfl (ll_s rfl (ll_s rfl (ll_s rfl (ll_n (ll_n (ll_s rfl (ll_n (ll_n (ll_n (ll_n (ll_n ll_0)))))))))))) (hk125 (-x15))
                · skip
                  refine vv_if_ne 107 103 hk dX7_determinant_100 rfl rfl ?_ ?_
                  · skip
                    refine vv_iconst 104 hk dX7_determinant_103 rfl ic_1 ?_
                    refine vv_goto 108 hk dX7_determinant_104 rfl ?_
                    exact vv_le (ll_s rfl (ll_s rfl (ll_s rfl (ll_s rfl (ll_s rfl (ll_n (ll_s rfl (ll_n (ll_n (ll_s rfl (ll_n (ll_n ll_0)))))))))))) (hk108 (1 : Int32))
                  · skip
                    refine vv_iconst 108 hk dX7_determinant_107 rfl ic_0 ?_
                    exact vv_le (ll_s rfl (ll_s rfl (ll_s rfl (ll_s rfl (ll_s rfl (ll_n (ll_s rfl (ll_n (ll_n (ll_s rfl (ll_n (ll_n ll_0)))))))))))) (hk108 (0 : Int32))
              · skip
                refine vv_icmp_ne 62 53 hk dX7_determinant_50 rfl rfl ?_ ?_
                · skip
                  refine vv_aload_n (i := 0) 54 hk dX7_determinant_53 rfl rfl rfl ?_
                  refine vv_getR 57 hk dX7_determinant_54 rfl la_54 rfl ci_7 rfl fl_7_22 ?_
                  refine vv_iload_n (i := 3) 58 hk dX7_determinant_57 rfl rfl rfl ?_
                  refine vv_lald 59 hk he dX7_determinant_58 rfl la_58 sd_58 (fun v20 => ?_)
                  refine vv_goto 73 hk dX7_determinant_59 rfl ?_
                  exact vv_le (ll_s rfl (ll_s rfl (ll_s rfl (ll_s rfl (ll_s rfl (ll_n (ll_s rfl (ll_n (ll_n (ll_n (ll_n (ll_n ll_0)))))))))))) (hk73 v20)
                · skip
                  refine vv_aload_n (i := 0) 63 hk dX7_determinant_62 rfl rfl rfl ?_
                  refine vv_getR 66 hk dX7_determinant_63 rfl la_54 rfl ci_7 rfl fl_7_18 ?_
                  refine vv_iload_n (i := 3) 67 hk dX7_determinant_66 rfl rfl rfl ?_
                  refine vv_iconst 68 hk dX7_determinant_67 rfl ic_5 ?_
                  refine vv_imul 69 hk dX7_determinant_68 rfl ?_
                  refine vv_iload 71 hk dX7_determinant_69 rfl rfl ?_
                  refine vv_iadd 72 hk dX7_determinant_71 rfl ?_
                  refine vv_lald 73 hk he dX7_determinant_72 rfl la_57 sd_57 (fun v21 => ?_)
                  exact vv_le (ll_s rfl (ll_s rfl (ll_s rfl (ll_s rfl (ll_s rfl (ll_n (ll_s rfl (ll_n (ll_n (ll_n (ll_n (ll_n ll_0)))))))))))) (hk73 v21)
            · skip
              exact vv_le (ll_s rfl (ll_s rfl (ll_s rfl (ll_s rfl (ll_s rfl (ll_n (ll_s rfl (ll_n (ll_n (ll_n (ll_n (ll_n ll_0)))))))))))) (hk128 t10.1)
theorem c_J7_fill_d0a16 (G : GT) (kc : Nat) (nc : Nat) (a1 : Int64) (σ : Hp) (ho : LAY[kc]? = some (.inr (2, nc))) (hsd : decide (kc < NC) = true) : CtV G true yJ7_fill_d0a16 cJ7_fill_d0a16 5 none 0 [(rf G kc), (.long a1)] (f_J7_fill_d0a16 kc nc a1 σ) σ := by
  refine ctV (L0 := [some (rf G kc), some (.long a1), none, none, none]) (by decide +kernel) rfl rfl rfl (fun κ hk he hret => ?_)
  have hk : KO G κ cJ7_fill_d0a16 RJ7 0 := hk
  refine vv_iconst 1 hk dJ7_fill_d0a16_0 rfl ic_0 ?_
  refine vv_istore_n (i := 3) 2 [some (rf G kc), some (.long a1), none, some (.int (0 : Int32)), none] hk dJ7_fill_d0a16_1 rfl rfl rfl rfl ?_
  refine vv_aload_n (i := 0) 3 hk dJ7_fill_d0a16_2 rfl rfl rfl ?_
  refine vv_alen 4 hk dJ7_fill_d0a16_3 rfl ho rfl rfl ?_
  refine vv_istoreL 6 (fun x1 => [some (rf G kc), some (.long a1), none, some (.int (0 : Int32)), some (.int x1)]) hk dJ7_fill_d0a16_4 rfl rfl (fun _ => rfl) (fun x1 => ?_)
  refine vv_lp (fun t2 => (t2.2, 6, [some (rf G kc), some (.long a1), none, some (.int t2.1), some (.int x1)], [])) (fun kl6 hkl6 t2 => ?_) FU ((0 : Int32), σ)
  refine vv_iload_n (i := 3) 7 hk dJ7_fill_d0a16_6 rfl rfl rfl ?_
  refine vv_iload 9 hk dJ7_fill_d0a16_7 rfl rfl ?_
  refine vv_icmp_ge 22 12 hk dJ7_fill_d0a16_9 rfl rfl ?_ ?_
  · skip
    exact hret _ _ _ dJ7_fill_d0a16_22
  · skip
    refine vv_aload_n (i := 0) 13 hk dJ7_fill_d0a16_12 rfl rfl rfl ?_
    refine vv_iload_n (i := 3) 14 hk dJ7_fill_d0a16_13 rfl rfl rfl ?_
    refine vv_lload_n (i := 1) 15 hk dJ7_fill_d0a16_14 rfl rfl rfl ?_
    refine vv_last 16 hk he dJ7_fill_d0a16_15 rfl ho hsd (fun σ3 => ?_)
    refine vv_iinc 19 (fun x4 => [some (rf G kc), some (.long a1), none, some (.int x4), some (.int x1)]) hk dJ7_fill_d0a16_16 rfl rfl ic_1 (fun _ => rfl) (fun x4 => ?_)
    refine vv_goto 6 hk dJ7_fill_d0a16_19 rfl ?_
    exact vv_le (ll_s rfl (ll_s rfl (ll_n (ll_s rfl (ll_s rfl ll_0))))) (hkl6 (x4, σ3))
theorem c_X7_isClosed (G : GT) (a1 : Int32) (σ : Hp) : CtI G true yX7_isClosed cX7_isClosed 3 (some .boolean) 0 [(rf G 54), (.int a1)] (rdI (f_X7_isClosed a1 σ) σ) σ := by
  refine ctZr (L0 := [some (rf G 54), some (.int a1), none]) (by decide +kernel) rfl rfl rfl (fun κ hk he hret => ?_)
  have hk : KO G κ cX7_isClosed RX7 0 := hk
  refine vv_iconst 1 hk dX7_isClosed_0 rfl ic_0 ?_
  refine vv_istore_n (i := 2) 2 [some (rf G 54), some (.int a1), some (.int (0 : Int32))] hk dX7_isClosed_1 rfl rfl rfl rfl ?_
  refine vv_lp (fun t1 => (σ, 2, [some (rf G 54), some (.int a1), some (.int t1)], [])) (fun kl2 hkl2 t1 => ?_) FU (0 : Int32)
  refine vv_iload_n (i := 2) 3 hk dX7_isClosed_2 rfl rfl rfl ?_
  refine vv_iconst 4 hk dX7_isClosed_3 rfl ic_5 ?_
  refine vv_icmp_ge 38 7 hk dX7_isClosed_4 rfl rfl ?_ ?_
  · skip
    refine vv_iconst 39 hk dX7_isClosed_38 rfl ic_1 ?_
    exact hret _ _ _ dX7_isClosed_39
  · skip
    refine vv_aload_n (i := 0) 8 hk dX7_isClosed_7 rfl rfl rfl ?_
    refine vv_getR 11 hk dX7_isClosed_8 rfl la_54 rfl ci_7 rfl fl_7_15 ?_
    refine vv_iload_n (i := 1) 12 hk dX7_isClosed_11 rfl rfl rfl ?_
    refine vv_iald 13 hk he dX7_isClosed_12 rfl la_56 sd_56 (fun v2 => ?_)
    refine vv_iload_n (i := 2) 14 hk dX7_isClosed_13 rfl rfl rfl ?_
    refine vv_ishr 15 hk dX7_isClosed_14 rfl ?_
    refine vv_iconst 16 hk dX7_isClosed_15 rfl ic_1 ?_
    refine vv_iand 17 hk dX7_isClosed_16 rfl ?_
    refine vv_iconst 18 hk dX7_isClosed_17 rfl ic_1 ?_
    refine vv_jn (fun t3 => (σ, 32, [some (rf G 54), some (.int a1), some (.int t1)], [])) (fun t3 => ?_) (fun k32 hk32 => ?_)
    · skip
      refine vv_iinc 35 (fun x4 => [some (rf G 54), some (.int a1), some (.int x4)]) hk dX7_isClosed_32 rfl rfl ic_1 (fun _ => rfl) (fun x4 => ?_)
      refine vv_goto 2 hk dX7_isClosed_35 rfl ?_
      exact vv_le (ll_s rfl (ll_s rfl (ll_s rfl ll_0))) (hkl2 x4)
    · skip
      refine vv_icmp_ne 32 21 hk dX7_isClosed_18 rfl rfl ?_ ?_
      · skip
        refine vv_aload_n (i := 0) 22 hk dX7_isClosed_21 rfl rfl rfl ?_
        refine vv_getR 25 hk dX7_isClosed_22 rfl la_54 rfl ci_7 rfl fl_7_9 ?_
        refine vv_iload_n (i := 2) 26 hk dX7_isClosed_25 rfl rfl rfl ?_
        refine vv_iald 27 hk he dX7_isClosed_26 rfl la_55 sd_55 (fun v5 => ?_)
        refine vv_if_le 32 30 hk dX7_isClosed_27 rfl rfl ?_ ?_
        · skip
          exact vv_le (ll_s rfl (ll_s rfl (ll_s rfl ll_0))) (hk32 ())
        · skip
          refine vv_iconst 31 hk dX7_isClosed_30 rfl ic_0 ?_
          exact hret _ _ _ dX7_isClosed_31
      · skip
        exact vv_le (ll_s rfl (ll_s rfl (ll_s rfl ll_0))) (hk32 ())
theorem c_X7_fill (G : GT) (a1 : Int32) (σ : Hp) : CtV G true yX7_fill cX7_fill 5 none 1 [(rf G 54), (.int a1)] (f_X7_fill a1 σ) σ := by
  refine ctV (L0 := [some (rf G 54), some (.int a1), none, none, none]) (by decide +kernel) rfl rfl rfl (fun κ hk he hret => ?_)
  have hk : KO G κ cX7_fill RX7 1 := hk
  refine vv_aload_n (i := 0) 1 hk dX7_fill_0 rfl rfl rfl ?_
  refine vv_getR 4 hk dX7_fill_1 rfl la_54 rfl ci_7 rfl fl_7_18 ?_
  refine vv_lconst 5 hk dX7_fill_4 rfl lc_0 ?_
  refine vv_staV (st := []) 8 hk he dX7_fill_5 rfl ml_7_120 sf_J7_fill_d0a16 (c_J7_fill_d0a16 G 57 25 (0 : Int64) σ la_57 sd_57) rfl rfl rfl rfl (fun σ1 => ?_)
  refine vv_iconst 9 hk dX7_fill_8 rfl ic_0 ?_
  refine vv_istore_n (i := 2) 10 [some (rf G 54), some (.int a1), some (.int (0 : Int32)), none, none] hk dX7_fill_9 rfl rfl rfl rfl ?_
  refine vv_jn (fun t2 => (t2, 80, [some (rf G 54), none, none, none, none], [])) (fun t2 => ?_) (fun k80 hk80 => ?_)
  · skip
    refine vv_iconst 81 hk dX7_fill_80 rfl ic_0 ?_
    refine vv_istore_n (i := 2) 82 [some (rf G 54), none, some (.int (0 : Int32)), none, none] hk dX7_fill_81 rfl rfl rfl rfl ?_
    refine vv_lp (fun t3 => (t3.2, 82, [some (rf G 54), none, some (.int t3.1), none, none], [])) (fun kl82 hkl82 t3 => ?_) FU ((0 : Int32), t2)
    refine vv_iload_n (i := 2) 83 hk dX7_fill_82 rfl rfl rfl ?_
    refine vv_aload_n (i := 0) 84 hk dX7_fill_83 rfl rfl rfl ?_
    refine vv_getR 87 hk dX7_fill_84 rfl la_54 rfl ci_7 rfl fl_7_37 ?_
    refine vv_getI 90 hk he dX7_fill_87 rfl la_1 rfl ci_5 rfl fl_7_90 sd_1 ?_
    refine vv_icmp_ge 239 93 hk dX7_fill_90 rfl rfl ?_ ?_
    · skip
      exact hret _ _ _ dX7_fill_239
    · skip
      refine vv_aload_n (i := 0) 94 hk dX7_fill_93 rfl rfl rfl ?_
      refine vv_getR 97 hk dX7_fill_94 rfl la_54 rfl ci_7 rfl fl_7_37 ?_
      refine vv_getR 100 hk dX7_fill_97 rfl la_1 rfl ci_5 rfl fl_7_96 ?_
      refine vv_iload_n (i := 2) 101 hk dX7_fill_100 rfl rfl rfl ?_
      refine vv_iald 102 hk he dX7_fill_101 rfl la_7 sd_7 (fun v4 => ?_)
      refine vv_istore_n (i := 3) 103 [some (rf G 54), none, some (.int t3.1), some (.int v4), none] hk dX7_fill_102 rfl rfl rfl rfl ?_
      refine vv_aload_n (i := 0) 104 hk dX7_fill_103 rfl rfl rfl ?_
      refine vv_getR 107 hk dX7_fill_104 rfl la_54 rfl ci_7 rfl fl_7_37 ?_
      refine vv_getR 110 hk dX7_fill_107 rfl la_1 rfl ci_5 rfl fl_7_99 ?_
      refine vv_iload_n (i := 2) 111 hk dX7_fill_110 rfl rfl rfl ?_
      refine vv_iald 112 hk he dX7_fill_111 rfl la_8 sd_8 (fun v5 => ?_)
      refine vv_istore 114 [some (rf G 54), none, some (.int t3.1), some (.int v4), some (.int v5)] hk dX7_fill_112 rfl rfl rfl ?_
      refine vv_aload_n (i := 0) 115 hk dX7_fill_114 rfl rfl rfl ?_
      refine vv_getR 118 hk dX7_fill_115 rfl la_54 rfl ci_7 rfl fl_7_37 ?_
      refine vv_getI 121 hk he dX7_fill_118 rfl la_1 rfl ci_5 rfl fl_7_93 sd_1 ?_
      refine vv_iload_n (i := 2) 122 hk dX7_fill_121 rfl rfl rfl ?_
      refine vv_ishr 123 hk dX7_fill_122 rfl ?_
      refine vv_iconst 124 hk dX7_fill_123 rfl ic_1 ?_
      refine vv_iand 125 hk dX7_fill_124 rfl ?_
      refine vv_iconst 126 hk dX7_fill_125 rfl ic_1 ?_
      refine vv_jn (fun t6 => (t6, 233, [some (rf G 54), none, some (.int t3.1), none, none], [])) (fun t6 => ?_) (fun k233 hk233 => ?_)
      · skip
        refine vv_iinc 236 (fun x7 => [some (rf G 54), none, some (.int x7), none, none]) hk dX7_fill_233 rfl rfl ic_1 (fun _ => rfl) (fun x7 => ?_)
        refine vv_goto 82 hk dX7_fill_236 rfl ?_
        exact vv_le (ll_s rfl (ll_n (ll_s rfl (ll_n (ll_n ll_0))))) (hkl82 (x7, t6))
      · skip
        refine vv_icmp_ne 233 129 hk dX7_fill_126 rfl rfl ?_ ?_
        · skip
          refine vv_aload_n (i := 0) 130 hk dX7_fill_129 rfl rfl rfl ?_
          refine vv_iload_n (i := 3) 131 hk dX7_fill_130 rfl rfl rfl ?_
          refine vv_invIr (st := []) 134 hk he dX7_fill_131 rfl ml_7_52 cf_X7_isClosed la_54 ci_7 (c_X7_isClosed G v4 t3.2) rfl rfl rfl rfl (fun v8 => ?_)
          refine vv_if_ne 233 137 hk dX7_fill_134 rfl rfl ?_ ?_
          · skip
            refine vv_aload_n (i := 0) 138 hk dX7_fill_137 rfl rfl rfl ?_
            refine vv_getR 141 hk dX7_fill_138 rfl la_54 rfl ci_7 rfl fl_7_18 ?_
            refine vv_iload_n (i := 3) 142 hk dX7_fill_141 rfl rfl rfl ?_
            refine vv_iconst 143 hk dX7_fill_142 rfl ic_5 ?_
            refine vv_imul 144 hk dX7_fill_143 rfl ?_
            refine vv_iload_n (i := 3) 145 hk dX7_fill_144 rfl rfl rfl ?_
            refine vv_iadd 146 hk dX7_fill_145 rfl ?_
            refine vv_dup2 147 hk dX7_fill_146 rfl rfl rfl ?_
            refine vv_lald 148 hk he dX7_fill_147 rfl la_57 sd_57 (fun v9 => ?_)
            refine vv_aload_n (i := 0) 149 hk dX7_fill_148 rfl rfl rfl ?_
            refine vv_getR 152 hk dX7_fill_149 rfl la_54 rfl ci_7 rfl fl_7_37 ?_
            refine vv_getR 155 hk dX7_fill_152 rfl la_1 rfl ci_5 rfl fl_7_123 ?_
            refine vv_iload_n (i := 2) 156 hk dX7_fill_155 rfl rfl rfl ?_
            refine vv_iald 157 hk he dX7_fill_156 rfl la_9 sd_9 (fun v10 => ?_)
            refine vv_i2l 158 hk dX7_fill_157 rfl ?_
            refine vv_ladd 159 hk dX7_fill_158 rfl ?_
            refine vv_last 160 hk he dX7_fill_159 rfl la_57 sd_57 (fun σ11 => ?_)
            refine vv_aload_n (i := 0) 161 hk dX7_fill_160 rfl rfl rfl ?_
            refine vv_getR 164 hk dX7_fill_161 rfl la_54 rfl ci_7 rfl fl_7_18 ?_
            refine vv_iload 166 hk dX7_fill_164 rfl rfl ?_
            refine vv_iconst 167 hk dX7_fill_166 rfl ic_5 ?_
            refine vv_imul 168 hk dX7_fill_167 rfl ?_
            refine vv_iload 170 hk dX7_fill_168 rfl rfl ?_
            refine vv_iadd 171 hk dX7_fill_170 rfl ?_
            refine vv_dup2 172 hk dX7_fill_171 rfl rfl rfl ?_
            refine vv_lald 173 hk he dX7_fill_172 rfl la_57 sd_57 (fun v12 => ?_)
            refine vv_aload_n (i := 0) 174 hk dX7_fill_173 rfl rfl rfl ?_
            refine vv_getR 177 hk dX7_fill_174 rfl la_54 rfl ci_7 rfl fl_7_37 ?_
            refine vv_getR 180 hk dX7_fill_177 rfl la_1 rfl ci_5 rfl fl_7_123 ?_
            refine vv_iload_n (i := 2) 181 hk dX7_fill_180 rfl rfl rfl ?_
            refine vv_iald 182 hk he dX7_fill_181 rfl la_9 sd_9 (fun v13 => ?_)
            refine vv_i2l 183 hk dX7_fill_182 rfl ?_
            refine vv_ladd 184 hk dX7_fill_183 rfl ?_
            refine vv_last 185 hk he dX7_fill_184 rfl la_57 sd_57 (fun σ14 => ?_)
            refine vv_aload_n (i := 0) 186 hk dX7_fill_185 rfl rfl rfl ?_
            refine vv_getR 189 hk dX7_fill_186 rfl la_54 rfl ci_7 rfl fl_7_18 ?_
            refine vv_iload_n (i := 3) 190 hk dX7_fill_189 rfl rfl rfl ?_
            refine vv_iconst 191 hk dX7_fill_190 rfl ic_5 ?_
            refine vv_imul 192 hk dX7_fill_191 rfl ?_
            refine vv_iload 194 hk dX7_fill_192 rfl rfl ?_
            refine vv_iadd 195 hk dX7_fill_194 rfl ?_
            refine vv_dup2 196 hk dX7_fill_195 rfl rfl rfl ?_
            refine vv_lald 197 hk he dX7_fill_196 rfl la_57 sd_57 (fun v15 => ?_)
            refine vv_aload_n (i := 0) 198 hk dX7_fill_197 rfl rfl rfl ?_
            refine vv_getR 201 hk dX7_fill_198 rfl la_54 rfl ci_7 rfl fl_7_37 ?_
            refine vv_getR 204 hk dX7_fill_201 rfl la_1 rfl ci_5 rfl fl_7_123 ?_
            refine vv_iload_n (i := 2) 205 hk dX7_fill_204 rfl rfl rfl ?_
            refine vv_iald 206 hk he dX7_fill_205 rfl la_9 sd_9 (fun v16 => ?_)
            refine vv_i2l 207 hk dX7_fill_206 rfl ?_
            refine vv_lsub 208 hk dX7_fill_207 rfl ?_
            refine vv_last 209 hk he dX7_fill_208 rfl la_57 sd_57 (fun σ17 => ?_)
            refine vv_aload_n (i := 0) 210 hk dX7_fill_209 rfl rfl rfl ?_
            refine vv_getR 213 hk dX7_fill_210 rfl la_54 rfl ci_7 rfl fl_7_18 ?_
            refine vv_iload 215 hk dX7_fill_213 rfl rfl ?_
            refine vv_iconst 216 hk dX7_fill_215 rfl ic_5 ?_
            refine vv_imul 217 hk dX7_fill_216 rfl ?_
            refine vv_iload_n (i := 3) 218 hk dX7_fill_217 rfl rfl rfl ?_
            refine vv_iadd 219 hk dX7_fill_218 rfl ?_
            refine vv_dup2 220 hk dX7_fill_219 rfl rfl rfl ?_
            refine vv_lald 221 hk he dX7_fill_220 rfl la_57 sd_57 (fun v18 => ?_)
            refine vv_aload_n (i := 0) 222 hk dX7_fill_221 rfl rfl rfl ?_
            refine vv_getR 225 hk dX7_fill_222 rfl la_54 rfl ci_7 rfl fl_7_37 ?_
            refine vv_getR 228 hk dX7_fill_225 rfl la_1 rfl ci_5 rfl fl_7_123 ?_
            refine vv_iload_n (i := 2) 229 hk dX7_fill_228 rfl rfl rfl ?_
            refine vv_iald 230 hk he dX7_fill_229 rfl la_9 sd_9 (fun v19 => ?_)
            refine vv_i2l 231 hk dX7_fill_230 rfl ?_
            refine vv_lsub 232 hk dX7_fill_231 rfl ?_
            refine vv_last 233 hk he dX7_fill_232 rfl la_57 sd_57 (fun σ20 => ?_)
            exact vv_le (ll_s rfl (ll_n (ll_s rfl (ll_n (ll_n ll_0))))) (hk233 σ20)
          · skip
            exact vv_le (ll_s rfl (ll_n (ll_s rfl (ll_n (ll_n ll_0))))) (hk233 t3.2)
        · skip
          exact vv_le (ll_s rfl (ll_n (ll_s rfl (ll_n (ll_n ll_0))))) (hk233 t3.2)
  · skip
    refine vv_lp (fun t21 => (t21.2, 10, [some (rf G 54), some (.int a1), some (.int t21.1), none, none], [])) (fun kl10 hkl10 t21 => ?_) FU ((0 : Int32), σ1)
    refine vv_iload_n (i := 2) 11 hk dX7_fill_10 rfl rfl rfl ?_
    refine vv_iconst 12 hk dX7_fill_11 rfl ic_5 ?_
    refine vv_icmp_ge 80 15 hk dX7_fill_12 rfl rfl ?_ ?_
    · skip
      exact vv_le (ll_s rfl (ll_n (ll_n (ll_n (ll_n ll_0))))) (hk80 t21.2)
    · skip
      refine vv_aload_n (i := 0) 16 hk dX7_fill_15 rfl rfl rfl ?_
      refine vv_iload_n (i := 2) 17 hk dX7_fill_16 rfl rfl rfl ?_
      refine vv_invIr (st := []) 20 hk he dX7_fill_17 rfl ml_7_52 cf_X7_isClosed la_54 ci_7 (c_X7_isClosed G t21.1 t21.2) rfl rfl rfl rfl (fun v22 => ?_)
      refine vv_istore_n (i := 3) 21 [some (rf G 54), some (.int a1), some (.int t21.1), some (.int v22), none] hk dX7_fill_20 rfl rfl rfl rfl ?_
      refine vv_aload_n (i := 0) 22 hk dX7_fill_21 rfl rfl rfl ?_
      refine vv_getR 25 hk dX7_fill_22 rfl la_54 rfl ci_7 rfl fl_7_18 ?_
      refine vv_iload_n (i := 2) 26 hk dX7_fill_25 rfl rfl rfl ?_
      refine vv_iconst 27 hk dX7_fill_26 rfl ic_5 ?_
      refine vv_imul 28 hk dX7_fill_27 rfl ?_
      refine vv_iload_n (i := 2) 29 hk dX7_fill_28 rfl rfl rfl ?_
      refine vv_iadd 30 hk dX7_fill_29 rfl ?_
      refine vv_iload_n (i := 3) 31 hk dX7_fill_30 rfl rfl rfl ?_
      refine vv_jn (fun t23 => (t21.2, 45, [some (rf G 54), some (.int a1), some (.int t21.1), some (.int v22), none], [(.long t23), (.int ((t21.1 * (5 : Int32)) + t21.1)), (rf G 57)])) (fun t23 => ?_) (fun k45 hk45 => ?_)
      · skip
        refine vv_last 46 hk he dX7_fill_45 rfl la_57 sd_57 (fun σ24 => ?_)
        refine vv_aload_n (i := 0) 47 hk dX7_fill_46 rfl rfl rfl ?_
        refine vv_getR 50 hk dX7_fill_47 rfl la_54 rfl ci_7 rfl fl_7_22 ?_
        refine vv_iload_n (i := 2) 51 hk dX7_fill_50 rfl rfl rfl ?_
        refine vv_iload_n (i := 3) 52 hk dX7_fill_51 rfl rfl rfl ?_
        refine vv_jn (fun t25 => (σ24, 73, [some (rf G 54), some (.int a1), some (.int t21.1), none, none], [(.long t25), (.int t21.1), (rf G 58)])) (fun t25 => ?_) (fun k73 hk73 => ?_)
        · skip
          refine vv_last 74 hk he dX7_fill_73 rfl la_58 sd_58 (fun σ26 => ?_)
          refine vv_iinc 77 (fun x27 => [some (rf G 54), some (.int a1), some (.int x27), none, none]) hk dX7_fill_74 rfl rfl ic_1 (fun _ => rfl) (fun x27 => ?_)
          refine vv_goto 10 hk dX7_fill_77 rfl ?_
          exact vv_le (ll_s rfl (ll_s rfl (ll_s rfl (ll_n (ll_n ll_0))))) (hkl10 (x27, σ26))
        · skip
          refine vv_if_eq 59 55 hk dX7_fill_52 rfl rfl ?_ ?_
          · skip
            refine vv_aload_n (i := 0) 60 hk dX7_fill_59 rfl rfl rfl ?_
            refine vv_getR 63 hk dX7_fill_60 rfl la_54 rfl ci_7 rfl fl_7_37 ?_
            refine vv_getR 66 hk dX7_fill_63 rfl la_1 rfl ci_5 rfl fl_7_87 ?_
            refine vv_iload_n (i := 2) 67 hk dX7_fill_66 rfl rfl rfl ?_
            refine vv_iconst 68 hk dX7_fill_67 rfl ic_3 ?_
            refine vv_imul 69 hk dX7_fill_68 rfl ?_
            refine vv_iload_n (i := 1) 70 hk dX7_fill_69 rfl rfl rfl ?_
            refine vv_iadd 71 hk dX7_fill_70 rfl ?_
            refine vv_iald 72 hk he dX7_fill_71 rfl la_6 sd_6 (fun v28 => ?_)
            refine vv_i2l 73 hk dX7_fill_72 rfl ?_
            exact vv_le (ll_s rfl (ll_s rfl (ll_s rfl (ll_n (ll_n ll_0))))) (hk73 v28.toInt64)
          · skip
            refine vv_lconst 56 hk dX7_fill_55 rfl lc_0 ?_
            refine vv_goto 73 hk dX7_fill_56 rfl ?_
            exact vv_le (ll_s rfl (ll_s rfl (ll_s rfl (ll_n (ll_n ll_0))))) (hk73 (0 : Int64))
      · skip
        refine vv_if_eq 38 34 hk dX7_fill_31 rfl rfl ?_ ?_
        · skip
          refine vv_aload_n (i := 0) 39 hk dX7_fill_38 rfl rfl rfl ?_
          refine vv_getR 42 hk dX7_fill_39 rfl la_54 rfl ci_7 rfl fl_7_9 ?_
          refine vv_iload_n (i := 2) 43 hk dX7_fill_42 rfl rfl rfl ?_
          refine vv_iald 44 hk he dX7_fill_43 rfl la_55 sd_55 (fun v29 => ?_)
          refine vv_i2l 45 hk dX7_fill_44 rfl ?_
          exact vv_le (ll_s rfl (ll_s rfl (ll_s rfl (ll_s rfl (ll_n ll_0))))) (hk45 v29.toInt64)
        · skip
          refine vv_lconst 35 hk dX7_fill_34 rfl lc_1 ?_
          refine vv_goto 45 hk dX7_fill_35 rfl ?_
          exact vv_le (ll_s rfl (ll_s rfl (ll_s rfl (ll_s rfl (ll_n ll_0))))) (hk45 (1 : Int64))
theorem c_X7_findSpeeds (G : GT) (a1 : Int32) (a2 : Int32) (σ : Hp) : CtV G true yX7_findSpeeds cX7_findSpeeds 5 none 1 [(rf G 54), (.int a1), (.int a2)] (f_X7_findSpeeds a1 a2 σ) σ := by
  refine ctV (L0 := [some (rf G 54), some (.int a1), some (.int a2), none, none]) (by decide +kernel) rfl rfl rfl (fun κ hk he hret => ?_)
  have hk : KO G κ cX7_findSpeeds RX7 1 := hk
  refine vv_aload_n (i := 0) 1 hk dX7_findSpeeds_0 rfl rfl rfl ?_
  refine vv_getR 4 hk dX7_findSpeeds_1 rfl la_54 rfl ci_7 rfl fl_7_9 ?_
  refine vv_iconst 5 hk dX7_findSpeeds_4 rfl ic_0 ?_
  refine vv_staV (st := []) 8 hk he dX7_findSpeeds_5 rfl ml_7_105 sf_J7_fill_53178 (c_J7_fill_53178 G 55 5 (0 : Int32) σ la_55 sd_55) rfl rfl rfl rfl (fun σ1 => ?_)
  refine vv_iconst 9 hk dX7_findSpeeds_8 rfl ic_0 ?_
  refine vv_istore_n (i := 3) 10 [some (rf G 54), some (.int a1), some (.int a2), some (.int (0 : Int32)), none] hk dX7_findSpeeds_9 rfl rfl rfl rfl ?_
  refine vv_jn (fun t2 => (t2, 73, [some (rf G 54), none, some (.int a2), none, none], [])) (fun t2 => ?_) (fun k73 hk73 => ?_)
  · skip
    refine vv_iconst 74 hk dX7_findSpeeds_73 rfl ic_0 ?_
    refine vv_istore_n (i := 3) 75 [some (rf G 54), none, some (.int a2), some (.int (0 : Int32)), none] hk dX7_findSpeeds_74 rfl rfl rfl rfl ?_
    refine vv_lp (fun t3 => (t3.2, 75, [some (rf G 54), none, some (.int a2), some (.int t3.1), none], [])) (fun kl75 hkl75 t3 => ?_) FU ((0 : Int32), t2)
    refine vv_iload_n (i := 3) 76 hk dX7_findSpeeds_75 rfl rfl rfl ?_
    refine vv_aload_n (i := 0) 77 hk dX7_findSpeeds_76 rfl rfl rfl ?_
    refine vv_getI 80 hk he dX7_findSpeeds_77 rfl la_54 rfl ci_7 rfl fl_7_41 sd_54 ?_
    refine vv_icmp_ge 115 83 hk dX7_findSpeeds_80 rfl rfl ?_ ?_
    · skip
      exact hret _ _ _ dX7_findSpeeds_115
    · skip
      refine vv_aload_n (i := 0) 84 hk dX7_findSpeeds_83 rfl rfl rfl ?_
      refine vv_getR 87 hk dX7_findSpeeds_84 rfl la_54 rfl ci_7 rfl fl_7_9 ?_
      refine vv_aload_n (i := 0) 88 hk dX7_findSpeeds_87 rfl rfl rfl ?_
      refine vv_getR 91 hk dX7_findSpeeds_88 rfl la_54 rfl ci_7 rfl fl_7_28 ?_
      refine vv_iload_n (i := 3) 92 hk dX7_findSpeeds_91 rfl rfl rfl ?_
      refine vv_iald 93 hk he dX7_findSpeeds_92 rfl la_60 sd_60 (fun v4 => ?_)
      refine vv_dup2 94 hk dX7_findSpeeds_93 rfl rfl rfl ?_
      refine vv_iald 95 hk he dX7_findSpeeds_94 rfl la_55 sd_55 (fun v5 => ?_)
      refine vv_iload_n (i := 2) 96 hk dX7_findSpeeds_95 rfl rfl rfl ?_
      refine vv_iload_n (i := 3) 97 hk dX7_findSpeeds_96 rfl rfl rfl ?_
      refine vv_ishr 98 hk dX7_findSpeeds_97 rfl ?_
      refine vv_iconst 99 hk dX7_findSpeeds_98 rfl ic_1 ?_
      refine vv_iand 100 hk dX7_findSpeeds_99 rfl ?_
      refine vv_aload_n (i := 0) 101 hk dX7_findSpeeds_100 rfl rfl rfl ?_
      refine vv_getR 104 hk dX7_findSpeeds_101 rfl la_54 rfl ci_7 rfl fl_7_31 ?_
      refine vv_iload_n (i := 3) 105 hk dX7_findSpeeds_104 rfl rfl rfl ?_
      refine vv_iald 106 hk he dX7_findSpeeds_105 rfl la_61 sd_61 (fun v6 => ?_)
      refine vv_imul 107 hk dX7_findSpeeds_106 rfl ?_
      refine vv_iadd 108 hk dX7_findSpeeds_107 rfl ?_
      refine vv_iast 109 hk he dX7_findSpeeds_108 rfl la_55 sd_55 (fun σ7 => ?_)
      refine vv_iinc 112 (fun x8 => [some (rf G 54), none, some (.int a2), some (.int x8), none]) hk dX7_findSpeeds_109 rfl rfl ic_1 (fun _ => rfl) (fun x8 => ?_)
      refine vv_goto 75 hk dX7_findSpeeds_112 rfl ?_
      exact vv_le (ll_s rfl (ll_n (ll_s rfl (ll_s rfl (ll_n ll_0))))) (hkl75 (x8, σ7))
  · skip
    refine vv_lp (fun t9 => (t9.2, 10, [some (rf G 54), some (.int a1), some (.int a2), some (.int t9.1), none], [])) (fun kl10 hkl10 t9 => ?_) FU ((0 : Int32), σ1)
    refine vv_iload_n (i := 3) 11 hk dX7_findSpeeds_10 rfl rfl rfl ?_
    refine vv_aload_n (i := 0) 12 hk dX7_findSpeeds_11 rfl rfl rfl ?_
    refine vv_getR 15 hk dX7_findSpeeds_12 rfl la_54 rfl ci_7 rfl fl_7_37 ?_
    refine vv_getI 18 hk he dX7_findSpeeds_15 rfl la_1 rfl ci_5 rfl fl_7_110 sd_1 ?_
    refine vv_icmp_ge 73 21 hk dX7_findSpeeds_18 rfl rfl ?_ ?_
    · skip
      exact vv_le (ll_s rfl (ll_n (ll_s rfl (ll_n (ll_n ll_0))))) (hk73 t9.2)
    · skip
      refine vv_aload_n (i := 0) 22 hk dX7_findSpeeds_21 rfl rfl rfl ?_
      refine vv_getR 25 hk dX7_findSpeeds_22 rfl la_54 rfl ci_7 rfl fl_7_37 ?_
      refine vv_getR 28 hk dX7_findSpeeds_25 rfl la_1 rfl ci_5 rfl fl_7_113 ?_
      refine vv_iload_n (i := 3) 29 hk dX7_findSpeeds_28 rfl rfl rfl ?_
      refine vv_iconst 30 hk dX7_findSpeeds_29 rfl ic_3 ?_
      refine vv_imul 31 hk dX7_findSpeeds_30 rfl ?_
      refine vv_iload_n (i := 1) 32 hk dX7_findSpeeds_31 rfl rfl rfl ?_
      refine vv_iadd 33 hk dX7_findSpeeds_32 rfl ?_
      refine vv_iald 34 hk he dX7_findSpeeds_33 rfl la_11 sd_11 (fun v10 => ?_)
      refine vv_istore 36 [some (rf G 54), some (.int a1), some (.int a2), some (.int t9.1), some (.int v10)] hk dX7_findSpeeds_34 rfl rfl rfl ?_
      refine vv_aload_n (i := 0) 37 hk dX7_findSpeeds_36 rfl rfl rfl ?_
      refine vv_getR 40 hk dX7_findSpeeds_37 rfl la_54 rfl ci_7 rfl fl_7_9 ?_
      refine vv_aload_n (i := 0) 41 hk dX7_findSpeeds_40 rfl rfl rfl ?_
      refine vv_getR 44 hk dX7_findSpeeds_41 rfl la_54 rfl ci_7 rfl fl_7_37 ?_
      refine vv_getR 47 hk dX7_findSpeeds_44 rfl la_1 rfl ci_5 rfl fl_7_116 ?_
      refine vv_iload_n (i := 3) 48 hk dX7_findSpeeds_47 rfl rfl rfl ?_
      refine vv_iald 49 hk he dX7_findSpeeds_48 rfl la_10 sd_10 (fun v11 => ?_)
      refine vv_dup2 50 hk dX7_findSpeeds_49 rfl rfl rfl ?_
      refine vv_iald 51 hk he dX7_findSpeeds_50 rfl la_55 sd_55 (fun v12 => ?_)
      refine vv_aload_n (i := 0) 52 hk dX7_findSpeeds_51 rfl rfl rfl ?_
      refine vv_getR 55 hk dX7_findSpeeds_52 rfl la_54 rfl ci_7 rfl fl_7_37 ?_
      refine vv_getI 58 hk he dX7_findSpeeds_55 rfl la_1 rfl ci_5 rfl fl_7_117 sd_1 ?_
      refine vv_iload_n (i := 3) 59 hk dX7_findSpeeds_58 rfl rfl rfl ?_
      refine vv_ishr 60 hk dX7_findSpeeds_59 rfl ?_
      refine vv_iconst 61 hk dX7_findSpeeds_60 rfl ic_1 ?_
      refine vv_iand 62 hk dX7_findSpeeds_61 rfl ?_
      refine vv_iload 64 hk dX7_findSpeeds_62 rfl rfl ?_
      refine vv_imul 65 hk dX7_findSpeeds_64 rfl ?_
      refine vv_iadd 66 hk dX7_findSpeeds_65 rfl ?_
      refine vv_iast 67 hk he dX7_findSpeeds_66 rfl la_55 sd_55 (fun σ13 => ?_)
      refine vv_iinc 70 (fun x14 => [some (rf G 54), some (.int a1), some (.int a2), some (.int x14), some (.int v10)]) hk dX7_findSpeeds_67 rfl rfl ic_1 (fun _ => rfl) (fun x14 => ?_)
      refine vv_goto 10 hk dX7_findSpeeds_70 rfl ?_
      exact vv_le (ll_s rfl (ll_s rfl (ll_s rfl (ll_s rfl (ll_n ll_0))))) (hkl10 (x14, σ13))
theorem c_X7_serves (G : GT) (a1 : Int32) (a2 : Int32) (a3 : Int32) (σ : Hp) : CtI G true yX7_serves cX7_serves 7 (some .boolean) 2 [(rf G 54), (.int a1), (.int a2), (.int a3)] (f_X7_serves a1 a2 a3 σ) σ := by
  refine ctZ (L0 := [some (rf G 54), some (.int a1), some (.int a2), some (.int a3), none, none, none]) (by decide +kernel) rfl rfl rfl (fun κ hk he hret => ?_)
  have hk : KO G κ cX7_serves RX7 2 := hk
  refine vv_aload_n (i := 0) 1 hk dX7_serves_0 rfl rfl rfl ?_
  refine vv_iconst 2 hk dX7_serves_1 rfl ic_0 ?_
  refine vv_iload_n (i := 1) 3 hk dX7_serves_2 rfl rfl rfl ?_
  refine vv_invV (st := []) 6 hk he dX7_serves_3 rfl ml_7_48 cf_X7_findSpeeds la_54 ci_7 (c_X7_findSpeeds G (0 : Int32) a1 σ) rfl rfl rfl rfl (fun σ1 => ?_)
  refine vv_iconst 7 hk dX7_serves_6 rfl ic_0 ?_
  refine vv_istore 9 [some (rf G 54), some (.int a1), some (.int a2), some (.int a3), some (.int (0 : Int32)), none, none] hk dX7_serves_7 rfl rfl rfl ?_
  refine vv_jn (fun t2 => (σ1, 48, [some (rf G 54), none, some (.int a2), some (.int a3), none, none, none], [])) (fun t2 => ?_) (fun k48 hk48 => ?_)
  · skip
    refine vv_aload_n (i := 0) 49 hk dX7_serves_48 rfl rfl rfl ?_
    refine vv_iconst 50 hk dX7_serves_49 rfl ic_0 ?_
    refine vv_invV (st := []) 53 hk he dX7_serves_50 rfl ml_7_58 cf_X7_fill la_54 ci_7 (c_X7_fill G (0 : Int32) σ1) rfl rfl rfl rfl (fun σ3 => ?_)
    refine vv_iload_n (i := 3) 54 hk dX7_serves_53 rfl rfl rfl ?_
    refine vv_i2l 55 hk dX7_serves_54 rfl ?_
    refine vv_aload_n (i := 0) 56 hk dX7_serves_55 rfl rfl rfl ?_
    refine vv_iconst 57 hk dX7_serves_56 rfl ic_m1 ?_
    refine vv_invJ (st := [(.long a3.toInt64)]) 60 hk he dX7_serves_57 rfl ml_7_62 cf_X7_determinant la_54 ci_7 (c_X7_determinant G (-1 : Int32) σ3) rfl rfl rfl rfl (fun v4 σ5 => ?_)
    refine vv_lmul 61 hk dX7_serves_60 rfl ?_
    refine vv_lstoreL 63 (fun x6 => [some (rf G 54), none, some (.int a2), some (.int a3), some (.long x6), none, none]) hk dX7_serves_61 rfl rfl (fun _ => rfl) (fun x6 => ?_)
    refine vv_iconst 64 hk dX7_serves_63 rfl ic_0 ?_
    refine vv_istore 66 [some (rf G 54), none, some (.int a2), some (.int a3), some (.long x6), none, some (.int (0 : Int32))] hk dX7_serves_64 rfl rfl rfl ?_
    refine vv_le (L' := [some (rf G 54), none, some (.int a2), none, some (.long x6), none, some (.int (0 : Int32))]) (ll_s rfl (ll_n (ll_s rfl (ll_n (ll_s rfl (ll_n (ll_s rfl ll_0))))))) ?_
    refine vv_lp (fun t7 => (t7.2, 66, [some (rf G 54), none, some (.int a2), none, some (.long x6), none, some (.int t7.1)], [])) (fun kl66 hkl66 t7 => ?_) FU ((0 : Int32), σ5)
    refine vv_iload 68 hk dX7_serves_66 rfl rfl ?_
    refine vv_aload_n (i := 0) 69 hk dX7_serves_68 rfl rfl rfl ?_
    refine vv_getR 72 hk dX7_serves_69 rfl la_54 rfl ci_7 rfl fl_7_37 ?_
    refine vv_getI 75 hk he dX7_serves_72 rfl la_1 rfl ci_5 rfl fl_7_82 sd_1 ?_
    refine vv_icmp_ge 108 78 hk dX7_serves_75 rfl rfl ?_ ?_
    · skip
      refine vv_iconst 109 hk dX7_serves_108 rfl ic_1 ?_
      exact hret _ _ _ _ dX7_serves_109
    · skip
      refine vv_iload_n (i := 2) 79 hk dX7_serves_78 rfl rfl rfl ?_
      refine vv_iload 81 hk dX7_serves_79 rfl rfl ?_
      refine vv_ishr 82 hk dX7_serves_81 rfl ?_
      refine vv_iconst 83 hk dX7_serves_82 rfl ic_1 ?_
      refine vv_iand 84 hk dX7_serves_83 rfl ?_
      refine vv_iconst 85 hk dX7_serves_84 rfl ic_1 ?_
      refine vv_jn (fun t8 => (t8, 102, [some (rf G 54), none, some (.int a2), none, some (.long x6), none, some (.int t7.1)], [])) (fun t8 => ?_) (fun k102 hk102 => ?_)
      · skip
        refine vv_iinc 105 (fun x9 => [some (rf G 54), none, some (.int a2), none, some (.long x6), none, some (.int x9)]) hk dX7_serves_102 rfl rfl ic_1 (fun _ => rfl) (fun x9 => ?_)
        refine vv_goto 66 hk dX7_serves_105 rfl ?_
        exact vv_le (ll_s rfl (ll_n (ll_s rfl (ll_n (ll_s rfl (ll_n (ll_s rfl ll_0))))))) (hkl66 (x9, t8))
      · skip
        refine vv_icmp_ne 102 88 hk dX7_serves_85 rfl rfl ?_ ?_
        · skip
          refine vv_aload_n (i := 0) 89 hk dX7_serves_88 rfl rfl rfl ?_
          refine vv_iload 91 hk dX7_serves_89 rfl rfl ?_
          refine vv_invJ (st := []) 94 hk he dX7_serves_91 rfl ml_7_62 cf_X7_determinant la_54 ci_7 (c_X7_determinant G t7.1 t7.2) rfl rfl rfl rfl (fun v10 σ11 => ?_)
          refine vv_lload 96 hk dX7_serves_94 rfl rfl ?_
          refine vv_lcmp 97 hk dX7_serves_96 rfl ?_
          refine vv_if_le 102 100 hk dX7_serves_97 rfl rfl ?_ ?_
          · skip
            exact vv_le (ll_s rfl (ll_n (ll_s rfl (ll_n (ll_s rfl (ll_n (ll_s rfl ll_0))))))) (hk102 σ11)
          · skip
            refine vv_iconst 101 hk dX7_serves_100 rfl ic_0 ?_
            exact hret _ _ _ _ dX7_serves_101
        · skip
          exact vv_le (ll_s rfl (ll_n (ll_s rfl (ll_n (ll_s rfl (ll_n (ll_s rfl ll_0))))))) (hk102 t7.2)
  · skip
    refine vv_le (L' := [some (rf G 54), none, some (.int a2), some (.int a3), some (.int (0 : Int32)), none, none]) (ll_s rfl (ll_n (ll_s rfl (ll_s rfl (ll_s rfl (ll_n (ll_n ll_0))))))) ?_
    refine vv_lp (fun t12 => (σ1, 9, [some (rf G 54), none, some (.int a2), some (.int a3), some (.int t12), none, none], [])) (fun kl9 hkl9 t12 => ?_) FU (0 : Int32)
    refine vv_iload 11 hk dX7_serves_9 rfl rfl ?_
    refine vv_aload_n (i := 0) 12 hk dX7_serves_11 rfl rfl rfl ?_
    refine vv_getR 15 hk dX7_serves_12 rfl la_54 rfl ci_7 rfl fl_7_37 ?_
    refine vv_getI 18 hk he dX7_serves_15 rfl la_1 rfl ci_5 rfl fl_7_82 sd_1 ?_
    refine vv_icmp_ge 48 21 hk dX7_serves_18 rfl rfl ?_ ?_
    · skip
      exact vv_le (ll_s rfl (ll_n (ll_s rfl (ll_s rfl (ll_n (ll_n (ll_n ll_0))))))) (hk48 ())
    · skip
      refine vv_iload_n (i := 2) 22 hk dX7_serves_21 rfl rfl rfl ?_
      refine vv_iload 24 hk dX7_serves_22 rfl rfl ?_
      refine vv_ishr 25 hk dX7_serves_24 rfl ?_
      refine vv_iconst 26 hk dX7_serves_25 rfl ic_1 ?_
      refine vv_iand 27 hk dX7_serves_26 rfl ?_
      refine vv_iconst 28 hk dX7_serves_27 rfl ic_1 ?_
      refine vv_jn (fun t13 => (σ1, 42, [some (rf G 54), none, some (.int a2), some (.int a3), some (.int t12), none, none], [])) (fun t13 => ?_) (fun k42 hk42 => ?_)
      · skip
        refine vv_iinc 45 (fun x14 => [some (rf G 54), none, some (.int a2), some (.int a3), some (.int x14), none, none]) hk dX7_serves_42 rfl rfl ic_1 (fun _ => rfl) (fun x14 => ?_)
        refine vv_goto 9 hk dX7_serves_45 rfl ?_
        exact vv_le (ll_s rfl (ll_n (ll_s rfl (ll_s rfl (ll_s rfl (ll_n (ll_n ll_0))))))) (hkl9 x14)
      · skip
        refine vv_icmp_ne 42 31 hk dX7_serves_28 rfl rfl ?_ ?_
        · skip
          refine vv_aload_n (i := 0) 32 hk dX7_serves_31 rfl rfl rfl ?_
          refine vv_iload 34 hk dX7_serves_32 rfl rfl ?_
          refine vv_invIr (st := []) 37 hk he dX7_serves_34 rfl ml_7_52 cf_X7_isClosed la_54 ci_7 (c_X7_isClosed G t12 σ1) rfl rfl rfl rfl (fun v15 => ?_)
          refine vv_if_eq 42 40 hk dX7_serves_37 rfl rfl ?_ ?_
          · skip
            exact vv_le (ll_s rfl (ll_n (ll_s rfl (ll_s rfl (ll_s rfl (ll_n (ll_n ll_0))))))) (hk42 ())
          · skip
            refine vv_iconst 41 hk dX7_serves_40 rfl ic_0 ?_
            exact hret _ _ _ _ dX7_serves_41
        · skip
          exact vv_le (ll_s rfl (ll_n (ll_s rfl (ll_s rfl (ll_s rfl (ll_n (ll_n ll_0))))))) (hk42 ())
theorem c_X7_cheapest (G : GT) (a1 : Int32) (a2 : Int32) (σ : Hp) : CtI G true yX7_cheapest cX7_cheapest 8 (some .int) 3 [(rf G 54), (.int a1), (.int a2)] (f_X7_cheapest a1 a2 σ) σ := by
  refine ctI (L0 := [some (rf G 54), some (.int a1), some (.int a2), none, none, none, none, none]) (by decide +kernel) rfl rfl rfl (fun κ hk he hret => ?_)
  have hk : KO G κ cX7_cheapest RX7 3 := hk
  refine vv_aload_n (i := 0) 1 hk dX7_cheapest_0 rfl rfl rfl ?_
  refine vv_invV (st := []) 4 hk he dX7_cheapest_1 rfl ml_7_45 cf_X7_findReached la_54 ci_7 (c_X7_findReached G σ) rfl rfl rfl rfl (fun σ1 => ?_)
  refine vv_aload_n (i := 0) 5 hk dX7_cheapest_4 rfl rfl rfl ?_
  refine vv_invIr (st := []) 8 hk he dX7_cheapest_5 rfl ml_7_70 cf_X7_leakyRooms la_54 ci_7 (c_X7_leakyRooms G σ1) rfl rfl rfl rfl (fun v2 => ?_)
  refine vv_istore_n (i := 3) 9 [some (rf G 54), some (.int a1), some (.int a2), some (.int v2), none, none, none, none] hk dX7_cheapest_8 rfl rfl rfl rfl ?_
  refine vv_bipush 11 hk dX7_cheapest_9 rfl bp_m9 ?_
  refine vv_istore 13 [some (rf G 54), some (.int a1), some (.int a2), some (.int v2), some (.int (-9 : Int32)), none, none, none] hk dX7_cheapest_11 rfl rfl rfl ?_
  refine vv_iconst 14 hk dX7_cheapest_13 rfl ic_0 ?_
  refine vv_istore 16 [some (rf G 54), some (.int a1), some (.int a2), some (.int v2), some (.int (-9 : Int32)), some (.int (0 : Int32)), none, none] hk dX7_cheapest_14 rfl rfl rfl ?_
  refine vv_iconst 17 hk dX7_cheapest_16 rfl ic_0 ?_
  refine vv_istore 19 [some (rf G 54), some (.int a1), some (.int a2), some (.int v2), some (.int (-9 : Int32)), some (.int (0 : Int32)), some (.int (0 : Int32)), none] hk dX7_cheapest_17 rfl rfl rfl ?_
  refine vv_jn (fun t3 => (t3.2.2, 77, [some (rf G 54), none, some (.int a2), none, some (.int t3.1), some (.int t3.2.1), none, none], [])) (fun t3 => ?_) (fun k77 hk77 => ?_)
  · skip
    refine vv_iload_n (i := 2) 78 hk dX7_cheapest_77 rfl rfl rfl ?_
    refine vv_iconst 79 hk dX7_cheapest_78 rfl ic_1 ?_
    refine vv_jn (fun t4 => (t3.2.2, 96, [some (rf G 54), none, none, none, none, none, none, none], [(.int t4)])) (fun t4 => ?_) (fun k96 hk96 => ?_)
    · skip
      exact hret _ _ _ _ dX7_cheapest_96
    · skip
      refine vv_jn (fun t5 => (t3.2.2, 89, [some (rf G 54), none, none, none, some (.int t3.1), none, none, none], [])) (fun t5 => ?_) (fun k89 hk89 => ?_)
      · skip
        refine vv_iload 91 hk dX7_cheapest_89 rfl rfl ?_
        refine vv_goto 96 hk dX7_cheapest_91 rfl ?_
        exact vv_le (ll_s rfl (ll_n (ll_n (ll_n (ll_n (ll_n (ll_n (ll_n ll_0)))))))) (hk96 t3.1)
      · skip
        refine vv_icmp_eq 89 82 hk dX7_cheapest_79 rfl rfl ?_ ?_
        · skip
          exact vv_le (ll_s rfl (ll_n (ll_n (ll_n (ll_s rfl (ll_n (ll_n (ll_n ll_0)))))))) (hk89 ())
        · skip
          refine vv_iload 84 hk dX7_cheapest_82 rfl rfl ?_
          refine vv_bipush 86 hk dX7_cheapest_84 rfl bp_m9 ?_
          refine vv_icmp_ne 94 89 hk dX7_cheapest_86 rfl rfl ?_ ?_
          · skip
            exact vv_le (ll_s rfl (ll_n (ll_n (ll_n (ll_s rfl (ll_n (ll_n (ll_n ll_0)))))))) (hk89 ())
          · skip
            refine vv_iload 96 hk dX7_cheapest_94 rfl rfl ?_
            exact vv_le (ll_s rfl (ll_n (ll_n (ll_n (ll_n (ll_n (ll_n (ll_n ll_0)))))))) (hk96 t3.2.1)
  · skip
    refine vv_lp (fun t6 => (t6.2.2.2, 19, [some (rf G 54), some (.int a1), some (.int a2), some (.int v2), some (.int t6.1), some (.int t6.2.1), some (.int t6.2.2.1), none], [])) (fun kl19 hkl19 t6 => ?_) FU ((-9 : Int32), (0 : Int32), (0 : Int32), σ1)
    refine vv_iload 21 hk dX7_cheapest_19 rfl rfl ?_
    refine vv_iconst 22 hk dX7_cheapest_21 rfl ic_1 ?_
    refine vv_aload_n (i := 0) 23 hk dX7_cheapest_22 rfl rfl rfl ?_
    refine vv_getI 26 hk he dX7_cheapest_23 rfl la_54 rfl ci_7 rfl fl_7_41 sd_54 ?_
    refine vv_ishl 27 hk dX7_cheapest_26 rfl ?_
    refine vv_icmp_ge 77 30 hk dX7_cheapest_27 rfl rfl ?_ ?_
    · skip
      exact vv_le (ll_s rfl (ll_n (ll_s rfl (ll_n (ll_s rfl (ll_s rfl (ll_n (ll_n ll_0)))))))) (hk77 (t6.1, t6.2.1, t6.2.2.2))
    · skip
      refine vv_aload_n (i := 0) 31 hk dX7_cheapest_30 rfl rfl rfl ?_
      refine vv_iload 33 hk dX7_cheapest_31 rfl rfl ?_
      refine vv_invIr (st := []) 36 hk he dX7_cheapest_33 rfl ml_7_74 cf_X7_priceOf la_54 ci_7 (c_X7_priceOf G t6.2.2.1 t6.2.2.2) rfl rfl rfl rfl (fun v7 => ?_)
      refine vv_istore 38 [some (rf G 54), some (.int a1), some (.int a2), some (.int v2), some (.int t6.1), some (.int t6.2.1), some (.int t6.2.2.1), some (.int v7)] hk dX7_cheapest_36 rfl rfl rfl ?_
      refine vv_iload 40 hk dX7_cheapest_38 rfl rfl ?_
      refine vv_bipush 42 hk dX7_cheapest_40 rfl bp_m9 ?_
      refine vv_jn (fun t8 => (t8.2.2, 71, [some (rf G 54), some (.int a1), some (.int a2), some (.int v2), some (.int t8.1), some (.int t8.2.1), some (.int t6.2.2.1), none], [])) (fun t8 => ?_) (fun k71 hk71 => ?_)
      · skip
        refine vv_iinc 74 (fun x9 => [some (rf G 54), some (.int a1), some (.int a2), some (.int v2), some (.int t8.1), some (.int t8.2.1), some (.int x9), none]) hk dX7_cheapest_71 rfl rfl ic_1 (fun _ => rfl) (fun x9 => ?_)
        refine vv_goto 19 hk dX7_cheapest_74 rfl ?_
        exact vv_le (ll_s rfl (ll_s rfl (ll_s rfl (ll_s rfl (ll_s rfl (ll_s rfl (ll_s rfl (ll_n ll_0)))))))) (hkl19 (t8.1, t8.2.1, x9, t8.2.2))
      · skip
        refine vv_jn (fun t10 => (t6.2.2.2, 52, [some (rf G 54), some (.int a1), some (.int a2), some (.int v2), some (.int t6.1), some (.int t6.2.1), some (.int t6.2.2.1), some (.int v7)], [])) (fun t10 => ?_) (fun k52 hk52 => ?_)
        · skip
          refine vv_aload_n (i := 0) 53 hk dX7_cheapest_52 rfl rfl rfl ?_
          refine vv_iload 55 hk dX7_cheapest_53 rfl rfl ?_
          refine vv_iload_n (i := 3) 56 hk dX7_cheapest_55 rfl rfl rfl ?_
          refine vv_iload_n (i := 1) 57 hk dX7_cheapest_56 rfl rfl rfl ?_
          refine vv_invI (st := []) 60 hk he dX7_cheapest_57 rfl ml_7_78 cf_X7_serves la_54 ci_7 (c_X7_serves G t6.2.2.1 v2 a1 t6.2.2.2) rfl rfl rfl rfl (fun v11 σ12 => ?_)
          refine vv_if_eq 71 63 hk dX7_cheapest_60 rfl rfl ?_ ?_
          · skip
            exact vv_le (ll_s rfl (ll_s rfl (ll_s rfl (ll_s rfl (ll_s rfl (ll_s rfl (ll_s rfl (ll_n ll_0)))))))) (hk71 (t6.1, t6.2.1, σ12))
          · skip
            refine vv_iload 65 hk dX7_cheapest_63 rfl rfl ?_
            refine vv_istore 67 [some (rf G 54), some (.int a1), some (.int a2), some (.int v2), some (.int t6.2.2.1), some (.int t6.2.1), some (.int t6.2.2.1), some (.int v7)] hk dX7_cheapest_65 rfl rfl rfl ?_
            refine vv_iload 69 hk dX7_cheapest_67 rfl rfl ?_
            refine vv_istore 71 [some (rf G 54), some (.int a1), some (.int a2), some (.int v2), some (.int t6.2.2.1), some (.int v7), some (.int t6.2.2.1), some (.int v7)] hk dX7_cheapest_69 rfl rfl rfl ?_
            exact vv_le (ll_s rfl (ll_s rfl (ll_s rfl (ll_s rfl (ll_s rfl (ll_s rfl (ll_s rfl (ll_n ll_0)))))))) (hk71 (t6.2.2.1, v7, σ12))
        · skip
          refine vv_icmp_eq 52 45 hk dX7_cheapest_42 rfl rfl ?_ ?_
          · skip
            exact vv_le (ll_s rfl (ll_s rfl (ll_s rfl (ll_s rfl (ll_s rfl (ll_s rfl (ll_s rfl (ll_s rfl ll_0)))))))) (hk52 ())
          · skip
            refine vv_iload 47 hk dX7_cheapest_45 rfl rfl ?_
            refine vv_iload 49 hk dX7_cheapest_47 rfl rfl ?_
            refine vv_icmp_ge 71 52 hk dX7_cheapest_49 rfl rfl ?_ ?_
            · skip
              exact vv_le (ll_s rfl (ll_s rfl (ll_s rfl (ll_s rfl (ll_s rfl (ll_s rfl (ll_s rfl (ll_n ll_0)))))))) (hk71 (t6.1, t6.2.1, t6.2.2.2))
            · skip
              exact vv_le (ll_s rfl (ll_s rfl (ll_s rfl (ll_s rfl (ll_s rfl (ll_s rfl (ll_s rfl (ll_s rfl ll_0)))))))) (hk52 ())
theorem c_X5_addPump (G : GT) (a1 : Int32) (a2 : Int32) (a3 : Int32) (a4 : Int32) (a5 : Int32) (σ : Hp) : CtI G true yX5_addPump cX5_addPump 6 (some .int) 0 [(rf G 1), (.int a1), (.int a2), (.int a3), (.int a4), (.int a5)] (f_X5_addPump a1 a2 a3 a4 a5 σ) σ := by
  refine ctI (L0 := [some (rf G 1), some (.int a1), some (.int a2), some (.int a3), some (.int a4), some (.int a5)]) (by decide +kernel) rfl rfl rfl (fun κ hk he hret => ?_)
  have hk : KO G κ cX5_addPump RX5 0 := hk
  refine vv_aload_n (i := 0) 1 hk dX5_addPump_0 rfl rfl rfl ?_
  refine vv_getI 4 hk he dX5_addPump_1 rfl la_1 rfl ci_5 rfl fl_5_52 sd_1 ?_
  refine vv_bipush 6 hk dX5_addPump_4 rfl bp_8 ?_
  refine vv_icmp_lt 12 9 hk dX5_addPump_6 rfl rfl ?_ ?_
  · skip
    refine vv_aload_n (i := 0) 13 hk dX5_addPump_12 rfl rfl rfl ?_
    refine vv_getR 16 hk dX5_addPump_13 rfl la_1 rfl ci_5 rfl fl_5_36 ?_
    refine vv_aload_n (i := 0) 17 hk dX5_addPump_16 rfl rfl rfl ?_
    refine vv_getI 20 hk he dX5_addPump_17 rfl la_1 rfl ci_5 rfl fl_5_52 sd_1 ?_
    refine vv_iload_n (i := 1) 21 hk dX5_addPump_20 rfl rfl rfl ?_
    refine vv_iast 22 hk he dX5_addPump_21 rfl la_10 sd_10 (fun σ1 => ?_)
    refine vv_aload_n (i := 0) 23 hk dX5_addPump_22 rfl rfl rfl ?_
    refine vv_getR 26 hk dX5_addPump_23 rfl la_1 rfl ci_5 rfl fl_5_39 ?_
    refine vv_aload_n (i := 0) 27 hk dX5_addPump_26 rfl rfl rfl ?_
    refine vv_getI 30 hk he dX5_addPump_27 rfl la_1 rfl ci_5 rfl fl_5_52 sd_1 ?_
    refine vv_iconst 31 hk dX5_addPump_30 rfl ic_3 ?_
    refine vv_imul 32 hk dX5_addPump_31 rfl ?_
    refine vv_iload_n (i := 2) 33 hk dX5_addPump_32 rfl rfl rfl ?_
    refine vv_iast 34 hk he dX5_addPump_33 rfl la_11 sd_11 (fun σ2 => ?_)
    refine vv_aload_n (i := 0) 35 hk dX5_addPump_34 rfl rfl rfl ?_
    refine vv_getR 38 hk dX5_addPump_35 rfl la_1 rfl ci_5 rfl fl_5_39 ?_
    refine vv_aload_n (i := 0) 39 hk dX5_addPump_38 rfl rfl rfl ?_
    refine vv_getI 42 hk he dX5_addPump_39 rfl la_1 rfl ci_5 rfl fl_5_52 sd_1 ?_
    refine vv_iconst 43 hk dX5_addPump_42 rfl ic_3 ?_
    refine vv_imul 44 hk dX5_addPump_43 rfl ?_
    refine vv_iconst 45 hk dX5_addPump_44 rfl ic_1 ?_
    refine vv_iadd 46 hk dX5_addPump_45 rfl ?_
    refine vv_iload_n (i := 3) 47 hk dX5_addPump_46 rfl rfl rfl ?_
    refine vv_iast 48 hk he dX5_addPump_47 rfl la_11 sd_11 (fun σ3 => ?_)
    refine vv_aload_n (i := 0) 49 hk dX5_addPump_48 rfl rfl rfl ?_
    refine vv_getR 52 hk dX5_addPump_49 rfl la_1 rfl ci_5 rfl fl_5_39 ?_
    refine vv_aload_n (i := 0) 53 hk dX5_addPump_52 rfl rfl rfl ?_
    refine vv_getI 56 hk he dX5_addPump_53 rfl la_1 rfl ci_5 rfl fl_5_52 sd_1 ?_
    refine vv_iconst 57 hk dX5_addPump_56 rfl ic_3 ?_
    refine vv_imul 58 hk dX5_addPump_57 rfl ?_
    refine vv_iconst 59 hk dX5_addPump_58 rfl ic_2 ?_
    refine vv_iadd 60 hk dX5_addPump_59 rfl ?_
    refine vv_iload 62 hk dX5_addPump_60 rfl rfl ?_
    refine vv_iast 63 hk he dX5_addPump_62 rfl la_11 sd_11 (fun σ4 => ?_)
    refine vv_aload_n (i := 0) 64 hk dX5_addPump_63 rfl rfl rfl ?_
    refine vv_getR 67 hk dX5_addPump_64 rfl la_1 rfl ci_5 rfl fl_5_42 ?_
    refine vv_aload_n (i := 0) 68 hk dX5_addPump_67 rfl rfl rfl ?_
    refine vv_getI 71 hk he dX5_addPump_68 rfl la_1 rfl ci_5 rfl fl_5_52 sd_1 ?_
    refine vv_iload 73 hk dX5_addPump_71 rfl rfl ?_
    refine vv_iast 74 hk he dX5_addPump_73 rfl la_12 sd_12 (fun σ5 => ?_)
    refine vv_aload_n (i := 0) 75 hk dX5_addPump_74 rfl rfl rfl ?_
    refine vv_dup 76 hk dX5_addPump_75 rfl rfl ?_
    refine vv_getI 79 hk he dX5_addPump_76 rfl la_1 rfl ci_5 rfl fl_5_52 sd_1 ?_
    refine vv_dup_x1 80 hk dX5_addPump_79 rfl rfl rfl ?_
    refine vv_iconst 81 hk dX5_addPump_80 rfl ic_1 ?_
    refine vv_iadd 82 hk dX5_addPump_81 rfl ?_
    refine vv_putI 85 hk he dX5_addPump_82 rfl la_1 rfl ci_5 rfl fl_5_52 sd_1 rfl rfl (fun σ6 => ?_)
    exact hret _ _ _ _ dX5_addPump_85
  · skip
    refine vv_bipush 11 hk dX5_addPump_9 rfl bp_m9 ?_
    exact hret _ _ _ _ dX5_addPump_11
theorem c_X3_shown (G : GT) (a1 : Int32) (a2 : Int32) (σ : Hp) : CtI G true yX3_shown cX3_shown 7 (some .int) 1 [(rf G 67), (.int a1), (rf G 13), (.int a2)] (rdI (f_X3_shown a1 a2 σ) σ) σ := by
  refine ctIr (L0 := [some (rf G 67), some (.int a1), some (rf G 13), some (.int a2), none, none, none]) (by decide +kernel) rfl rfl rfl (fun κ hk he hret => ?_)
  have hk : KO G κ cX3_shown RX3 1 := hk
  refine vv_lconst 1 hk dX3_shown_0 rfl lc_0 ?_
  refine vv_lstore 3 [some (rf G 67), some (.int a1), some (rf G 13), some (.int a2), some (.long (0 : Int64)), none, none] hk dX3_shown_1 rfl rfl rfl ?_
  refine vv_iconst 4 hk dX3_shown_3 rfl ic_0 ?_
  refine vv_istore 6 [some (rf G 67), some (.int a1), some (rf G 13), some (.int a2), some (.long (0 : Int64)), none, some (.int (0 : Int32))] hk dX3_shown_4 rfl rfl rfl ?_
  refine vv_jn (fun t1 => (σ, 45, [some (rf G 67), none, some (rf G 13), none, some (.long t1), none, none], [])) (fun t1 => ?_) (fun k45 hk45 => ?_)
  · skip
    refine vv_ldc2 48 hk dX3_shown_45 rfl cw_3_36 ?_
    refine vv_lload 50 hk dX3_shown_48 rfl rfl ?_
    refine vv_ldc2 53 hk dX3_shown_50 rfl cw_3_38 ?_
    refine vv_ldiv 54 hk dX3_shown_53 rfl ?_
    refine vv_mminL 57 hk dX3_shown_54 rfl ml_3_40 rfl ?_
    refine vv_l2i 58 hk dX3_shown_57 rfl ?_
    exact hret _ _ _ dX3_shown_58
  · skip
    refine vv_lp (fun t2 => (σ, 6, [some (rf G 67), some (.int a1), some (rf G 13), some (.int a2), some (.long t2.1), none, some (.int t2.2)], [])) (fun kl6 hkl6 t2 => ?_) FU ((0 : Int64), (0 : Int32))
    refine vv_iload 8 hk dX3_shown_6 rfl rfl ?_
    refine vv_iconst 9 hk dX3_shown_8 rfl ic_3 ?_
    refine vv_icmp_ge 45 12 hk dX3_shown_9 rfl rfl ?_ ?_
    · skip
      exact vv_le (ll_s rfl (ll_n (ll_s rfl (ll_n (ll_s rfl (ll_n (ll_n ll_0))))))) (hk45 t2.1)
    · skip
      refine vv_lload 14 hk dX3_shown_12 rfl rfl ?_
      refine vv_aload_n (i := 0) 15 hk dX3_shown_14 rfl rfl rfl ?_
      refine vv_getR 18 hk dX3_shown_15 rfl la_67 rfl ci_3 rfl fl_3_11 ?_
      refine vv_iload_n (i := 1) 19 hk dX3_shown_18 rfl rfl rfl ?_
      refine vv_iconst 20 hk dX3_shown_19 rfl ic_3 ?_
      refine vv_imul 21 hk dX3_shown_20 rfl ?_
      refine vv_iload 23 hk dX3_shown_21 rfl rfl ?_
      refine vv_iadd 24 hk dX3_shown_23 rfl ?_
      refine vv_iald 25 hk he dX3_shown_24 rfl la_68 sd_68 (fun v3 => ?_)
      refine vv_i2l 26 hk dX3_shown_25 rfl ?_
      refine vv_aload_n (i := 2) 27 hk dX3_shown_26 rfl rfl rfl ?_
      refine vv_iload_n (i := 3) 28 hk dX3_shown_27 rfl rfl rfl ?_
      refine vv_iload 30 hk dX3_shown_28 rfl rfl ?_
      refine vv_iconst 31 hk dX3_shown_30 rfl ic_0 ?_
      refine vv_invIr (st := [(.long v3.toInt64), (.long t2.1)]) 34 hk he dX3_shown_31 rfl ml_3_30 cf_X4_amount la_13 ci_4 (c_X4_amount_13 G a2 t2.2 (0 : Int32) σ) rfl rfl rfl rfl (fun v4 => ?_)
      refine vv_i2l 35 hk dX3_shown_34 rfl ?_
      refine vv_lmul 36 hk dX3_shown_35 rfl ?_
      refine vv_ladd 37 hk dX3_shown_36 rfl ?_
      refine vv_lstoreL 39 (fun x5 => [some (rf G 67), some (.int a1), some (rf G 13), some (.int a2), some (.long x5), none, some (.int t2.2)]) hk dX3_shown_37 rfl rfl (fun _ => rfl) (fun x5 => ?_)
      refine vv_iinc 42 (fun x6 => [some (rf G 67), some (.int a1), some (rf G 13), some (.int a2), some (.long x5), none, some (.int x6)]) hk dX3_shown_39 rfl rfl ic_1 (fun _ => rfl) (fun x6 => ?_)
      refine vv_goto 6 hk dX3_shown_42 rfl ?_
      exact vv_le (ll_s rfl (ll_s rfl (ll_s rfl (ll_s rfl (ll_s rfl (ll_n (ll_s rfl ll_0))))))) (hkl6 (x5, x6))
theorem c_X0_repeat (G : GT) (σ : Hp) : CtI G true yX0_repeat cX0_repeat 4 (some .boolean) 0 [(rf G 25), (rf G 1), (rf G 13)] (f_X0_repeat σ) σ := by
  refine ctZ (L0 := [some (rf G 25), some (rf G 1), some (rf G 13), none]) (by decide +kernel) rfl rfl rfl (fun κ hk he hret => ?_)
  have hk : KO G κ cX0_repeat RX0 0 := hk
  refine vv_aload_n (i := 0) 1 hk dX0_repeat_0 rfl rfl rfl ?_
  refine vv_getI 4 hk he dX0_repeat_1 rfl la_25 rfl ci_0 rfl fl_0_23 sd_25 ?_
  refine vv_if_le 16 7 hk dX0_repeat_4 rfl rfl ?_ ?_
  · skip
    refine vv_iconst 17 hk dX0_repeat_16 rfl ic_0 ?_
    exact hret _ _ _ _ dX0_repeat_17
  · skip
    refine vv_aload_n (i := 0) 8 hk dX0_repeat_7 rfl rfl rfl ?_
    refine vv_getI 11 hk he dX0_repeat_8 rfl la_25 rfl ci_0 rfl fl_0_19 sd_25 ?_
    refine vv_bipush 13 hk dX0_repeat_11 rfl bp_30 ?_
    refine vv_icmp_lt 18 16 hk dX0_repeat_13 rfl rfl ?_ ?_
    · skip
      refine vv_iconst 19 hk dX0_repeat_18 rfl ic_1 ?_
      refine vv_aload_n (i := 0) 20 hk dX0_repeat_19 rfl rfl rfl ?_
      refine vv_getR 23 hk dX0_repeat_20 rfl la_25 rfl ci_0 rfl fl_0_13 ?_
      refine vv_aload_n (i := 0) 24 hk dX0_repeat_23 rfl rfl rfl ?_
      refine vv_getI 27 hk he dX0_repeat_24 rfl la_25 rfl ci_0 rfl fl_0_19 sd_25 ?_
      refine vv_iald 28 hk he dX0_repeat_27 rfl la_27 sd_27 (fun v1 => ?_)
      refine vv_ishl 29 hk dX0_repeat_28 rfl ?_
      refine vv_istore_nL (i := 3) 30 (fun x2 => [some (rf G 25), some (rf G 1), some (rf G 13), some (.int x2)]) hk dX0_repeat_29 rfl rfl rfl (fun _ => rfl) (fun x2 => ?_)
      refine vv_aload_n (i := 0) 31 hk dX0_repeat_30 rfl rfl rfl ?_
      refine vv_getR 34 hk dX0_repeat_31 rfl la_25 rfl ci_0 rfl fl_0_9 ?_
      refine vv_aload_n (i := 0) 35 hk dX0_repeat_34 rfl rfl rfl ?_
      refine vv_getI 38 hk he dX0_repeat_35 rfl la_25 rfl ci_0 rfl fl_0_19 sd_25 ?_
      refine vv_iald 39 hk he dX0_repeat_38 rfl la_26 sd_26 (fun v3 => ?_)
      refine vv_jn (fun t4 => (t4, 103, [some (rf G 25), some (rf G 1), some (rf G 13), none], [])) (fun t4 => ?_) (fun k103 hk103 => ?_)
      · skip
        refine vv_aload_n (i := 0) 104 hk dX0_repeat_103 rfl rfl rfl ?_
        refine vv_dup 105 hk dX0_repeat_104 rfl rfl ?_
        refine vv_getI 108 hk he dX0_repeat_105 rfl la_25 rfl ci_0 rfl fl_0_19 sd_25 ?_
        refine vv_iconst 109 hk dX0_repeat_108 rfl ic_1 ?_
        refine vv_iadd 110 hk dX0_repeat_109 rfl ?_
        refine vv_putI 113 hk he dX0_repeat_110 rfl la_25 rfl ci_0 rfl fl_0_19 sd_25 rfl rfl (fun σ5 => ?_)
        refine vv_aload_n (i := 0) 114 hk dX0_repeat_113 rfl rfl rfl ?_
        refine vv_dup 115 hk dX0_repeat_114 rfl rfl ?_
        refine vv_getI 118 hk he dX0_repeat_115 rfl la_25 rfl ci_0 rfl fl_0_23 sd_25 ?_
        refine vv_iconst 119 hk dX0_repeat_118 rfl ic_1 ?_
        refine vv_isub 120 hk dX0_repeat_119 rfl ?_
        refine vv_putI 123 hk he dX0_repeat_120 rfl la_25 rfl ci_0 rfl fl_0_23 sd_25 rfl rfl (fun σ6 => ?_)
        refine vv_iconst 124 hk dX0_repeat_123 rfl ic_1 ?_
        exact hret _ _ _ _ dX0_repeat_124
      · skip
        refine vv_if_ne 55 42 hk dX0_repeat_39 rfl rfl ?_ ?_
        · skip
          refine vv_aload_n (i := 1) 43 hk dX0_repeat_42 rfl rfl rfl ?_
          refine vv_dup 44 hk dX0_repeat_43 rfl rfl ?_
          refine vv_getI 47 hk he dX0_repeat_44 rfl la_1 rfl ci_5 rfl fl_0_38 sd_1 ?_
          refine vv_iload_n (i := 3) 48 hk dX0_repeat_47 rfl rfl rfl ?_
          refine vv_ixor 49 hk dX0_repeat_48 rfl ?_
          refine vv_putI 52 hk he dX0_repeat_49 rfl la_1 rfl ci_5 rfl fl_0_38 sd_1 rfl rfl (fun σ7 => ?_)
          refine vv_goto 103 hk dX0_repeat_52 rfl ?_
          exact vv_le (ll_s rfl (ll_s rfl (ll_s rfl (ll_n ll_0)))) (hk103 σ7)
        · skip
          refine vv_aload_n (i := 0) 56 hk dX0_repeat_55 rfl rfl rfl ?_
          refine vv_getR 59 hk dX0_repeat_56 rfl la_25 rfl ci_0 rfl fl_0_9 ?_
          refine vv_aload_n (i := 0) 60 hk dX0_repeat_59 rfl rfl rfl ?_
          refine vv_getI 63 hk he dX0_repeat_60 rfl la_25 rfl ci_0 rfl fl_0_19 sd_25 ?_
          refine vv_iald 64 hk he dX0_repeat_63 rfl la_26 sd_26 (fun v8 => ?_)
          refine vv_iconst 65 hk dX0_repeat_64 rfl ic_1 ?_
          refine vv_icmp_ne 81 68 hk dX0_repeat_65 rfl rfl ?_ ?_
          · skip
            refine vv_aload_n (i := 1) 69 hk dX0_repeat_68 rfl rfl rfl ?_
            refine vv_dup 70 hk dX0_repeat_69 rfl rfl ?_
            refine vv_getI 73 hk he dX0_repeat_70 rfl la_1 rfl ci_5 rfl fl_0_29 sd_1 ?_
            refine vv_iload_n (i := 3) 74 hk dX0_repeat_73 rfl rfl rfl ?_
            refine vv_ixor 75 hk dX0_repeat_74 rfl ?_
            refine vv_putI 78 hk he dX0_repeat_75 rfl la_1 rfl ci_5 rfl fl_0_29 sd_1 rfl rfl (fun σ9 => ?_)
            refine vv_goto 103 hk dX0_repeat_78 rfl ?_
            exact vv_le (ll_s rfl (ll_s rfl (ll_s rfl (ll_n ll_0)))) (hk103 σ9)
          · skip
            refine vv_aload_n (i := 1) 82 hk dX0_repeat_81 rfl rfl rfl ?_
            refine vv_dup 83 hk dX0_repeat_82 rfl rfl ?_
            refine vv_getI 86 hk he dX0_repeat_83 rfl la_1 rfl ci_5 rfl fl_0_29 sd_1 ?_
            refine vv_iload_n (i := 3) 87 hk dX0_repeat_86 rfl rfl rfl ?_
            refine vv_iconst 88 hk dX0_repeat_87 rfl ic_m1 ?_
            refine vv_ixor 89 hk dX0_repeat_88 rfl ?_
            refine vv_iand 90 hk dX0_repeat_89 rfl ?_
            refine vv_putI 93 hk he dX0_repeat_90 rfl la_1 rfl ci_5 rfl fl_0_29 sd_1 rfl rfl (fun σ10 => ?_)
            refine vv_aload_n (i := 2) 94 hk dX0_repeat_93 rfl rfl rfl ?_
            refine vv_dup 95 hk dX0_repeat_94 rfl rfl ?_
            refine vv_getI 98 hk he dX0_repeat_95 rfl la_13 rfl ci_4 rfl fl_0_41 sd_13 ?_
            refine vv_iload_n (i := 3) 99 hk dX0_repeat_98 rfl rfl rfl ?_
            refine vv_ior 100 hk dX0_repeat_99 rfl ?_
            refine vv_putI 103 hk he dX0_repeat_100 rfl la_13 rfl ci_4 rfl fl_0_41 sd_13 rfl rfl (fun σ11 => ?_)
            exact vv_le (ll_s rfl (ll_s rfl (ll_s rfl (ll_n ll_0)))) (hk103 σ11)
    · skip
      refine vv_iconst 17 hk dX0_repeat_16 rfl ic_0 ?_
      exact hret _ _ _ _ dX0_repeat_17
theorem c_X7_common (G : GT) (a1 : Int64) (a2 : Int64) (σ : Hp) : CtJ G true yX7_common cX7_common 11 (some .long) 0 [(.long a1), (.long a2)] (rdJ (f_X7_common a1 a2) σ) σ := by
  refine ctJr (L0 := [some (.long a1), none, some (.long a2), none, none, none, none, none, none, none, none]) (by decide +kernel) rfl rfl rfl (fun κ hk he hret => ?_)
  have hk : KO G κ cX7_common RX7 0 := hk
  refine vv_lload_n (i := 0) 1 hk dX7_common_0 rfl rfl rfl ?_
  refine vv_mabsL 4 hk dX7_common_1 rfl ml_7_131 rfl ?_
  refine vv_lstoreL 6 (fun x1 => [some (.long a1), none, some (.long a2), none, some (.long x1), none, none, none, none, none, none]) hk dX7_common_4 rfl rfl (fun _ => rfl) (fun x1 => ?_)
  refine vv_lload_n (i := 2) 7 hk dX7_common_6 rfl rfl rfl ?_
  refine vv_mabsL 10 hk dX7_common_7 rfl ml_7_131 rfl ?_
  refine vv_lstoreL 12 (fun x2 => [some (.long a1), none, some (.long a2), none, some (.long x1), none, some (.long x2), none, none, none, none]) hk dX7_common_10 rfl rfl (fun _ => rfl) (fun x2 => ?_)
  refine vv_iconst 13 hk dX7_common_12 rfl ic_0 ?_
  refine vv_istore 15 [some (.long a1), none, some (.long a2), none, some (.long x1), none, some (.long x2), none, some (.int (0 : Int32)), none, none] hk dX7_common_13 rfl rfl rfl ?_
  refine vv_le (L' := [none, none, none, none, some (.long x1), none, some (.long x2), none, some (.int (0 : Int32)), none, none]) (ll_n (ll_n (ll_n (ll_n (ll_s rfl (ll_n (ll_s rfl (ll_n (ll_s rfl (ll_n (ll_n ll_0))))))))))) ?_
  refine vv_lp (fun t3 => (σ, 15, [none, none, none, none, some (.long t3.1), none, some (.long t3.2.1), none, some (.int t3.2.2), none, none], [])) (fun kl15 hkl15 t3 => ?_) FU (x1, x2, (0 : Int32))
  refine vv_iload 17 hk dX7_common_15 rfl rfl ?_
  refine vv_sipush 20 hk dX7_common_17 rfl sp_200 ?_
  refine vv_icmp_ge 51 23 hk dX7_common_20 rfl rfl ?_ ?_
  · skip
    refine vv_lload 53 hk dX7_common_51 rfl rfl ?_
    exact hret _ _ _ dX7_common_53
  · skip
    refine vv_lload 25 hk dX7_common_23 rfl rfl ?_
    refine vv_lconst 26 hk dX7_common_25 rfl lc_0 ?_
    refine vv_lcmp 27 hk dX7_common_26 rfl ?_
    refine vv_if_eq 51 30 hk dX7_common_27 rfl rfl ?_ ?_
    · skip
      refine vv_lload 53 hk dX7_common_51 rfl rfl ?_
      exact hret _ _ _ dX7_common_53
    · skip
      refine vv_lload 32 hk dX7_common_30 rfl rfl ?_
      refine vv_lload 34 hk dX7_common_32 rfl rfl ?_
      refine vv_lrem 35 hk dX7_common_34 rfl ?_
      refine vv_lstoreL 37 (fun x4 => [none, none, none, none, some (.long t3.1), none, some (.long t3.2.1), none, some (.int t3.2.2), some (.long x4), none]) hk dX7_common_35 rfl rfl (fun _ => rfl) (fun x4 => ?_)
      refine vv_lload 39 hk dX7_common_37 rfl rfl ?_
      refine vv_lstore 41 [none, none, none, none, some (.long t3.2.1), none, some (.long t3.2.1), none, some (.int t3.2.2), some (.long x4), none] hk dX7_common_39 rfl rfl rfl ?_
      refine vv_lload 43 hk dX7_common_41 rfl rfl ?_
      refine vv_lstore 45 [none, none, none, none, some (.long t3.2.1), none, some (.long x4), none, some (.int t3.2.2), some (.long x4), none] hk dX7_common_43 rfl rfl rfl ?_
      refine vv_iinc 48 (fun x5 => [none, none, none, none, some (.long t3.2.1), none, some (.long x4), none, some (.int x5), some (.long x4), none]) hk dX7_common_45 rfl rfl ic_1 (fun _ => rfl) (fun x5 => ?_)
      refine vv_goto 15 hk dX7_common_48 rfl ?_
      exact vv_le (ll_n (ll_n (ll_n (ll_n (ll_s rfl (ll_n (ll_s rfl (ll_n (ll_s rfl (ll_n (ll_n ll_0))))))))))) (hkl15 (t3.2.1, x4, x5))
theorem c_X7_fraction (G : GT) (a1 : Int32) (a2 : Int32) (a3 : Int32) (σ : Hp) : CtJ G true yX7_fraction cX7_fraction 10 (some .long) 2 [(rf G 54), (.int a1), (.int a2), (.int a3)] (f_X7_fraction a1 a2 a3 σ) σ := by
  refine ctJ (L0 := [some (rf G 54), some (.int a1), some (.int a2), some (.int a3), none, none, none, none, none, none]) (by decide +kernel) rfl rfl rfl (fun κ hk he hret => ?_)
  have hk : KO G κ cX7_fraction RX7 2 := hk
  refine vv_aload_n (i := 0) 1 hk dX7_fraction_0 rfl rfl rfl ?_
  refine vv_invV (st := []) 4 hk he dX7_fraction_1 rfl ml_7_45 cf_X7_findReached la_54 ci_7 (c_X7_findReached G σ) rfl rfl rfl rfl (fun σ1 => ?_)
  refine vv_aload_n (i := 0) 5 hk dX7_fraction_4 rfl rfl rfl ?_
  refine vv_iload_n (i := 2) 6 hk dX7_fraction_5 rfl rfl rfl ?_
  refine vv_iconst 7 hk dX7_fraction_6 rfl ic_0 ?_
  refine vv_invV (st := []) 10 hk he dX7_fraction_7 rfl ml_7_48 cf_X7_findSpeeds la_54 ci_7 (c_X7_findSpeeds G a2 (0 : Int32) σ1) rfl rfl rfl rfl (fun σ2 => ?_)
  refine vv_aload_n (i := 0) 11 hk dX7_fraction_10 rfl rfl rfl ?_
  refine vv_iload_n (i := 1) 12 hk dX7_fraction_11 rfl rfl rfl ?_
  refine vv_invIr (st := []) 15 hk he dX7_fraction_12 rfl ml_7_52 cf_X7_isClosed la_54 ci_7 (c_X7_isClosed G a1 σ2) rfl rfl rfl rfl (fun v3 => ?_)
  refine vv_if_eq 22 18 hk dX7_fraction_15 rfl rfl ?_ ?_
  · skip
    refine vv_aload_n (i := 0) 23 hk dX7_fraction_22 rfl rfl rfl ?_
    refine vv_iload_n (i := 2) 24 hk dX7_fraction_23 rfl rfl rfl ?_
    refine vv_invV (st := []) 27 hk he dX7_fraction_24 rfl ml_7_58 cf_X7_fill la_54 ci_7 (c_X7_fill G a2 σ2) rfl rfl rfl rfl (fun σ4 => ?_)
    refine vv_aload_n (i := 0) 28 hk dX7_fraction_27 rfl rfl rfl ?_
    refine vv_iload_n (i := 1) 29 hk dX7_fraction_28 rfl rfl rfl ?_
    refine vv_invJ (st := []) 32 hk he dX7_fraction_29 rfl ml_7_62 cf_X7_determinant la_54 ci_7 (c_X7_determinant G a1 σ4) rfl rfl rfl rfl (fun v5 σ6 => ?_)
    refine vv_lstore 34 [some (rf G 54), some (.int a1), some (.int a2), some (.int a3), some (.long v5), none, none, none, none, none] hk dX7_fraction_32 rfl rfl rfl ?_
    refine vv_aload_n (i := 0) 35 hk dX7_fraction_34 rfl rfl rfl ?_
    refine vv_iconst 36 hk dX7_fraction_35 rfl ic_m1 ?_
    refine vv_invJ (st := []) 39 hk he dX7_fraction_36 rfl ml_7_62 cf_X7_determinant la_54 ci_7 (c_X7_determinant G (-1 : Int32) σ6) rfl rfl rfl rfl (fun v7 σ8 => ?_)
    refine vv_lstore 41 [some (rf G 54), some (.int a1), some (.int a2), some (.int a3), some (.long v5), none, some (.long v7), none, none, none] hk dX7_fraction_39 rfl rfl rfl ?_
    refine vv_lload 43 hk dX7_fraction_41 rfl rfl ?_
    refine vv_lload 45 hk dX7_fraction_43 rfl rfl ?_
    refine vv_staJr (st := []) 48 hk he dX7_fraction_45 rfl ml_7_66 sf_X7_common (c_X7_common G v5 v7 σ8) rfl rfl rfl rfl (fun v9 => ?_)
    refine vv_lstore 50 [some (rf G 54), some (.int a1), some (.int a2), some (.int a3), some (.long v5), none, some (.long v7), none, some (.long v9), none] hk dX7_fraction_48 rfl rfl rfl ?_
    refine vv_lload 52 hk dX7_fraction_50 rfl rfl ?_
    refine vv_lconst 53 hk dX7_fraction_52 rfl lc_0 ?_
    refine vv_lcmp 54 hk dX7_fraction_53 rfl ?_
    refine vv_if_ne 61 57 hk dX7_fraction_54 rfl rfl ?_ ?_
    · skip
      refine vv_ldc2 60 hk dX7_fraction_57 rfl cw_7_56 ?_
      exact hret _ _ _ _ dX7_fraction_60
    · skip
      refine vv_iload_n (i := 3) 62 hk dX7_fraction_61 rfl rfl rfl ?_
      refine vv_jn (fun t10 => (σ8, 72, [some (rf G 54), none, none, none, none, none, none, none, some (.long v9), none], [(.long t10)])) (fun t10 => ?_) (fun k72 hk72 => ?_)
      · skip
        refine vv_lload 74 hk dX7_fraction_72 rfl rfl ?_
        refine vv_ldiv 75 hk dX7_fraction_74 rfl ?_
        exact hret _ _ _ _ dX7_fraction_75
      · skip
        refine vv_if_ne 70 65 hk dX7_fraction_62 rfl rfl ?_ ?_
        · skip
          refine vv_lload 67 hk dX7_fraction_65 rfl rfl ?_
          refine vv_goto 72 hk dX7_fraction_67 rfl ?_
          exact vv_le (ll_s rfl (ll_n (ll_n (ll_n (ll_n (ll_n (ll_n (ll_n (ll_s rfl (ll_n ll_0)))))))))) (hk72 v5)
        · skip
          refine vv_lload 72 hk dX7_fraction_70 rfl rfl ?_
          exact vv_le (ll_s rfl (ll_n (ll_n (ll_n (ll_n (ll_n (ll_n (ll_n (ll_s rfl (ll_n ll_0)))))))))) (hk72 v7)
  · skip
    refine vv_ldc2 21 hk dX7_fraction_18 rfl cw_7_56 ?_
    exact hret _ _ _ _ dX7_fraction_21
theorem c_X5_addRoom (G : GT) (a1 : Int32) (a2 : Int32) (σ : Hp) : CtI G true yX5_addRoom cX5_addRoom 3 (some .int) 0 [(rf G 1), (.int a1), (.int a2)] (f_X5_addRoom a1 a2 σ) σ := by
  refine ctI (L0 := [some (rf G 1), some (.int a1), some (.int a2)]) (by decide +kernel) rfl rfl rfl (fun κ hk he hret => ?_)
  have hk : KO G κ cX5_addRoom RX5 0 := hk
  refine vv_aload_n (i := 0) 1 hk dX5_addRoom_0 rfl rfl rfl ?_
  refine vv_getI 4 hk he dX5_addRoom_1 rfl la_1 rfl ci_5 rfl fl_5_45 sd_1 ?_
  refine vv_iconst 5 hk dX5_addRoom_4 rfl ic_5 ?_
  refine vv_icmp_lt 11 8 hk dX5_addRoom_5 rfl rfl ?_ ?_
  · skip
    refine vv_aload_n (i := 0) 12 hk dX5_addRoom_11 rfl rfl rfl ?_
    refine vv_getR 15 hk dX5_addRoom_12 rfl la_1 rfl ci_5 rfl fl_5_9 ?_
    refine vv_aload_n (i := 0) 16 hk dX5_addRoom_15 rfl rfl rfl ?_
    refine vv_getI 19 hk he dX5_addRoom_16 rfl la_1 rfl ci_5 rfl fl_5_45 sd_1 ?_
    refine vv_iload_n (i := 1) 20 hk dX5_addRoom_19 rfl rfl rfl ?_
    refine vv_iast 21 hk he dX5_addRoom_20 rfl la_2 sd_2 (fun σ1 => ?_)
    refine vv_aload_n (i := 0) 22 hk dX5_addRoom_21 rfl rfl rfl ?_
    refine vv_getR 25 hk dX5_addRoom_22 rfl la_1 rfl ci_5 rfl fl_5_15 ?_
    refine vv_aload_n (i := 0) 26 hk dX5_addRoom_25 rfl rfl rfl ?_
    refine vv_getI 29 hk he dX5_addRoom_26 rfl la_1 rfl ci_5 rfl fl_5_45 sd_1 ?_
    refine vv_iload_n (i := 2) 30 hk dX5_addRoom_29 rfl rfl rfl ?_
    refine vv_iast 31 hk he dX5_addRoom_30 rfl la_3 sd_3 (fun σ2 => ?_)
    refine vv_aload_n (i := 0) 32 hk dX5_addRoom_31 rfl rfl rfl ?_
    refine vv_getR 35 hk dX5_addRoom_32 rfl la_1 rfl ci_5 rfl fl_5_18 ?_
    refine vv_aload_n (i := 0) 36 hk dX5_addRoom_35 rfl rfl rfl ?_
    refine vv_getI 39 hk he dX5_addRoom_36 rfl la_1 rfl ci_5 rfl fl_5_45 sd_1 ?_
    refine vv_iconst 40 hk dX5_addRoom_39 rfl ic_5 ?_
    refine vv_iast 41 hk he dX5_addRoom_40 rfl la_4 sd_4 (fun σ3 => ?_)
    refine vv_aload_n (i := 0) 42 hk dX5_addRoom_41 rfl rfl rfl ?_
    refine vv_dup 43 hk dX5_addRoom_42 rfl rfl ?_
    refine vv_getI 46 hk he dX5_addRoom_43 rfl la_1 rfl ci_5 rfl fl_5_45 sd_1 ?_
    refine vv_dup_x1 47 hk dX5_addRoom_46 rfl rfl rfl ?_
    refine vv_iconst 48 hk dX5_addRoom_47 rfl ic_1 ?_
    refine vv_iadd 49 hk dX5_addRoom_48 rfl ?_
    refine vv_putI 52 hk he dX5_addRoom_49 rfl la_1 rfl ci_5 rfl fl_5_45 sd_1 rfl rfl (fun σ4 => ?_)
    exact hret _ _ _ _ dX5_addRoom_52
  · skip
    refine vv_bipush 10 hk dX5_addRoom_8 rfl bp_m9 ?_
    exact hret _ _ _ _ dX5_addRoom_10
theorem c_X6_digit (G : GT) (σ : Hp) : CtI G true yX6_digit cX6_digit 1 (some .int) 0 [(rf G 29)] (rdI (f_X6_digit σ) σ) σ := by
  refine ctIr (L0 := [some (rf G 29)]) (by decide +kernel) rfl rfl rfl (fun κ hk he hret => ?_)
  have hk : KO G κ cX6_digit RX6 0 := hk
  refine vv_aload_n (i := 0) 1 hk dX6_digit_0 rfl rfl rfl ?_
  refine vv_getI 4 hk he dX6_digit_1 rfl la_29 rfl ci_6 rfl fl_6_33 sd_29 ?_
  refine vv_bipush 6 hk dX6_digit_4 rfl bp_48 ?_
  refine vv_jn (fun t1 => (σ, 29, [some (rf G 29)], [(.int t1)])) (fun t1 => ?_) (fun k29 hk29 => ?_)
  · skip
    exact hret _ _ _ dX6_digit_29
  · skip
    refine vv_jn (fun t2 => (σ, 28, [some (rf G 29)], [])) (fun t2 => ?_) (fun k28 hk28 => ?_)
    · skip
      refine vv_iconst 29 hk dX6_digit_28 rfl ic_m1 ?_
      exact vv_le (ll_s rfl ll_0) (hk29 (-1 : Int32))
    · skip
      refine vv_icmp_lt 28 9 hk dX6_digit_6 rfl rfl ?_ ?_
      · skip
        exact vv_le (ll_s rfl ll_0) (hk28 ())
      · skip
        refine vv_aload_n (i := 0) 10 hk dX6_digit_9 rfl rfl rfl ?_
        refine vv_getI 13 hk he dX6_digit_10 rfl la_29 rfl ci_6 rfl fl_6_33 sd_29 ?_
        refine vv_bipush 15 hk dX6_digit_13 rfl bp_57 ?_
        refine vv_icmp_gt 28 18 hk dX6_digit_15 rfl rfl ?_ ?_
        · skip
          exact vv_le (ll_s rfl ll_0) (hk28 ())
        · skip
          refine vv_aload_n (i := 0) 19 hk dX6_digit_18 rfl rfl rfl ?_
          refine vv_getI 22 hk he dX6_digit_19 rfl la_29 rfl ci_6 rfl fl_6_33 sd_29 ?_
          refine vv_bipush 24 hk dX6_digit_22 rfl bp_48 ?_
          refine vv_isub 25 hk dX6_digit_24 rfl ?_
          refine vv_goto 29 hk dX6_digit_25 rfl ?_
          exact vv_le (ll_s rfl ll_0) (hk29 ((σ.1 29 3) - (48 : Int32)))
theorem c_X6_go (G : GT) (σ : Hp) : CtV G true yX6_go cX6_go 1 none 0 [(rf G 29)] (f_X6_go σ) σ := by
  refine ctV (L0 := [some (rf G 29)]) (by decide +kernel) rfl rfl rfl (fun κ hk he hret => ?_)
  have hk : KO G κ cX6_go RX6 0 := hk
  refine vv_aload_n (i := 0) 1 hk dX6_go_0 rfl rfl rfl ?_
  refine vv_dup 2 hk dX6_go_1 rfl rfl ?_
  refine vv_getI 5 hk he dX6_go_2 rfl la_29 rfl ci_6 rfl fl_6_27 sd_29 ?_
  refine vv_iconst 6 hk dX6_go_5 rfl ic_1 ?_
  refine vv_iadd 7 hk dX6_go_6 rfl ?_
  refine vv_putI 10 hk he dX6_go_7 rfl la_29 rfl ci_6 rfl fl_6_27 sd_29 rfl rfl (fun σ1 => ?_)
  refine vv_aload_n (i := 0) 11 hk dX6_go_10 rfl rfl rfl ?_
  refine vv_aload_n (i := 0) 12 hk dX6_go_11 rfl rfl rfl ?_
  refine vv_getI 15 hk he dX6_go_12 rfl la_29 rfl ci_6 rfl fl_6_27 sd_29 ?_
  refine vv_jn (fun t2 => (σ1, 51, [some (rf G 29)], [(.int t2), (rf G 29)])) (fun t2 => ?_) (fun k51 hk51 => ?_)
  · skip
    refine vv_putI 54 hk he dX6_go_51 rfl la_29 rfl ci_6 rfl fl_6_33 sd_29 rfl rfl (fun σ3 => ?_)
    exact hret _ _ _ dX6_go_54
  · skip
    refine vv_jn (fun t4 => (σ1, 50, [some (rf G 29)], [(rf G 29)])) (fun t4 => ?_) (fun k50 hk50 => ?_)
    · skip
      refine vv_iconst 51 hk dX6_go_50 rfl ic_m1 ?_
      exact vv_le (ll_s rfl ll_0) (hk51 (-1 : Int32))
    · skip
      refine vv_if_lt 50 18 hk dX6_go_15 rfl rfl ?_ ?_
      · skip
        exact vv_le (ll_s rfl ll_0) (hk50 ())
      · skip
        refine vv_aload_n (i := 0) 19 hk dX6_go_18 rfl rfl rfl ?_
        refine vv_getI 22 hk he dX6_go_19 rfl la_29 rfl ci_6 rfl fl_6_27 sd_29 ?_
        refine vv_aload_n (i := 0) 23 hk dX6_go_22 rfl rfl rfl ?_
        refine vv_getI 26 hk he dX6_go_23 rfl la_29 rfl ci_6 rfl fl_6_18 sd_29 ?_
        refine vv_icmp_ge 50 29 hk dX6_go_26 rfl rfl ?_ ?_
        · skip
          exact vv_le (ll_s rfl ll_0) (hk50 ())
        · skip
          refine vv_aload_n (i := 0) 30 hk dX6_go_29 rfl rfl rfl ?_
          refine vv_getI 33 hk he dX6_go_30 rfl la_29 rfl ci_6 rfl fl_6_27 sd_29 ?_
          refine vv_bipush 35 hk dX6_go_33 rfl bp_40 ?_
          refine vv_icmp_ge 50 38 hk dX6_go_35 rfl rfl ?_ ?_
          · skip
            exact vv_le (ll_s rfl ll_0) (hk50 ())
          · skip
            refine vv_aload_n (i := 0) 39 hk dX6_go_38 rfl rfl rfl ?_
            refine vv_getR 42 hk dX6_go_39 rfl la_29 rfl ci_6 rfl fl_6_9 ?_
            refine vv_aload_n (i := 0) 43 hk dX6_go_42 rfl rfl rfl ?_
            refine vv_getI 46 hk he dX6_go_43 rfl la_29 rfl ci_6 rfl fl_6_27 sd_29 ?_
            refine vv_iald 47 hk he dX6_go_46 rfl la_30 sd_30 (fun v5 => ?_)
            refine vv_goto 51 hk dX6_go_47 rfl ?_
            exact vv_le (ll_s rfl ll_0) (hk51 v5)
theorem c_X6_skip (G : GT) (a1 : Int32) (σ : Hp) : CtI G true yX6_skip cX6_skip 2 (some .boolean) 1 [(rf G 29), (.int a1)] (f_X6_skip a1 σ) σ := by
  refine ctZ (L0 := [some (rf G 29), some (.int a1)]) (by decide +kernel) rfl rfl rfl (fun κ hk he hret => ?_)
  have hk : KO G κ cX6_skip RX6 1 := hk
  refine vv_aload_n (i := 0) 1 hk dX6_skip_0 rfl rfl rfl ?_
  refine vv_getI 4 hk he dX6_skip_1 rfl la_29 rfl ci_6 rfl fl_6_33 sd_29 ?_
  refine vv_iload_n (i := 1) 5 hk dX6_skip_4 rfl rfl rfl ?_
  refine vv_icmp_eq 10 8 hk dX6_skip_5 rfl rfl ?_ ?_
  · skip
    refine vv_aload_n (i := 0) 11 hk dX6_skip_10 rfl rfl rfl ?_
    refine vv_invV (st := []) 14 hk he dX6_skip_11 rfl ml_6_30 cf_X6_go la_29 ci_6 (c_X6_go G σ) rfl rfl rfl rfl (fun σ1 => ?_)
    refine vv_iconst 15 hk dX6_skip_14 rfl ic_1 ?_
    exact hret _ _ _ _ dX6_skip_15
  · skip
    refine vv_iconst 9 hk dX6_skip_8 rfl ic_0 ?_
    exact hret _ _ _ _ dX6_skip_9
theorem c_X6_add (G : GT) (a1 : Int32) (σ : Hp) : CtV G true yX6_add cX6_add 2 none 0 [(rf G 29), (.int a1)] (f_X6_add a1 σ) σ := by
  refine ctV (L0 := [some (rf G 29), some (.int a1)]) (by decide +kernel) rfl rfl rfl (fun κ hk he hret => ?_)
  have hk : KO G κ cX6_add RX6 0 := hk
  refine vv_aload_n (i := 0) 1 hk dX6_add_0 rfl rfl rfl ?_
  refine vv_getI 4 hk he dX6_add_1 rfl la_29 rfl ci_6 rfl fl_6_24 sd_29 ?_
  refine vv_bipush 6 hk dX6_add_4 rfl bp_40 ?_
  refine vv_icmp_ge 29 9 hk dX6_add_6 rfl rfl ?_ ?_
  · skip
    exact hret _ _ _ dX6_add_29
  · skip
    refine vv_aload_n (i := 0) 10 hk dX6_add_9 rfl rfl rfl ?_
    refine vv_getR 13 hk dX6_add_10 rfl la_29 rfl ci_6 rfl fl_6_15 ?_
    refine vv_aload_n (i := 0) 14 hk dX6_add_13 rfl rfl rfl ?_
    refine vv_getI 17 hk he dX6_add_14 rfl la_29 rfl ci_6 rfl fl_6_24 sd_29 ?_
    refine vv_iload_n (i := 1) 18 hk dX6_add_17 rfl rfl rfl ?_
    refine vv_iast 19 hk he dX6_add_18 rfl la_31 sd_31 (fun σ1 => ?_)
    refine vv_aload_n (i := 0) 20 hk dX6_add_19 rfl rfl rfl ?_
    refine vv_dup 21 hk dX6_add_20 rfl rfl ?_
    refine vv_getI 24 hk he dX6_add_21 rfl la_29 rfl ci_6 rfl fl_6_24 sd_29 ?_
    refine vv_iconst 25 hk dX6_add_24 rfl ic_1 ?_
    refine vv_iadd 26 hk dX6_add_25 rfl ?_
    refine vv_putI 29 hk he dX6_add_26 rfl la_29 rfl ci_6 rfl fl_6_24 sd_29 rfl rfl (fun σ2 => ?_)
    exact hret _ _ _ dX6_add_29
theorem c_X6_among (G : GT) (a1 : Int32) (a2 : Int32) (a3 : Int32) (a4 : Int32) (a5 : Int32) (σ : Hp) : CtI G true yX6_among cX6_among 6 (some .int) 0 [(rf G 29), (.int a1), (.int a2), (.int a3), (.int a4), (.int a5)] (rdI (f_X6_among a1 a2 a3 a4 a5 σ) σ) σ := by
  refine ctIr (L0 := [some (rf G 29), some (.int a1), some (.int a2), some (.int a3), some (.int a4), some (.int a5)]) (by decide +kernel) rfl rfl rfl (fun κ hk he hret => ?_)
  have hk : KO G κ cX6_among RX6 0 := hk
  refine vv_aload_n (i := 0) 1 hk dX6_among_0 rfl rfl rfl ?_
  refine vv_getI 4 hk he dX6_among_1 rfl la_29 rfl ci_6 rfl fl_6_33 sd_29 ?_
  refine vv_iload_n (i := 1) 5 hk dX6_among_4 rfl rfl rfl ?_
  refine vv_icmp_ne 10 8 hk dX6_among_5 rfl rfl ?_ ?_
  · skip
    refine vv_iconst 9 hk dX6_among_8 rfl ic_0 ?_
    exact hret _ _ _ dX6_among_9
  · skip
    refine vv_aload_n (i := 0) 11 hk dX6_among_10 rfl rfl rfl ?_
    refine vv_getI 14 hk he dX6_among_11 rfl la_29 rfl ci_6 rfl fl_6_33 sd_29 ?_
    refine vv_iload_n (i := 2) 15 hk dX6_among_14 rfl rfl rfl ?_
    refine vv_icmp_ne 20 18 hk dX6_among_15 rfl rfl ?_ ?_
    · skip
      refine vv_iconst 19 hk dX6_among_18 rfl ic_1 ?_
      exact hret _ _ _ dX6_among_19
    · skip
      refine vv_aload_n (i := 0) 21 hk dX6_among_20 rfl rfl rfl ?_
      refine vv_getI 24 hk he dX6_among_21 rfl la_29 rfl ci_6 rfl fl_6_33 sd_29 ?_
      refine vv_iload_n (i := 3) 25 hk dX6_among_24 rfl rfl rfl ?_
      refine vv_icmp_ne 30 28 hk dX6_among_25 rfl rfl ?_ ?_
      · skip
        refine vv_iconst 29 hk dX6_among_28 rfl ic_2 ?_
        exact hret _ _ _ dX6_among_29
      · skip
        refine vv_aload_n (i := 0) 31 hk dX6_among_30 rfl rfl rfl ?_
        refine vv_getI 34 hk he dX6_among_31 rfl la_29 rfl ci_6 rfl fl_6_33 sd_29 ?_
        refine vv_iload 36 hk dX6_among_34 rfl rfl ?_
        refine vv_icmp_ne 41 39 hk dX6_among_36 rfl rfl ?_ ?_
        · skip
          refine vv_iconst 40 hk dX6_among_39 rfl ic_3 ?_
          exact hret _ _ _ dX6_among_40
        · skip
          refine vv_aload_n (i := 0) 42 hk dX6_among_41 rfl rfl rfl ?_
          refine vv_getI 45 hk he dX6_among_42 rfl la_29 rfl ci_6 rfl fl_6_33 sd_29 ?_
          refine vv_iload 47 hk dX6_among_45 rfl rfl ?_
          refine vv_jn (fun t1 => (σ, 55, [some (rf G 29), none, none, none, none, none], [(.int t1)])) (fun t1 => ?_) (fun k55 hk55 => ?_)
          · skip
            exact hret _ _ _ dX6_among_55
          · skip
            refine vv_icmp_ne 54 50 hk dX6_among_47 rfl rfl ?_ ?_
            · skip
              refine vv_iconst 51 hk dX6_among_50 rfl ic_4 ?_
              refine vv_goto 55 hk dX6_among_51 rfl ?_
              exact vv_le (ll_s rfl (ll_n (ll_n (ll_n (ll_n (ll_n ll_0)))))) (hk55 (4 : Int32))
            · skip
              refine vv_iconst 55 hk dX6_among_54 rfl ic_m1 ?_
              exact vv_le (ll_s rfl (ll_n (ll_n (ll_n (ll_n (ll_n ll_0)))))) (hk55 (-1 : Int32))
theorem c_X6_number (G : GT) (σ : Hp) : CtI G true yX6_number cX6_number 3 (some .int) 1 [(rf G 29)] (f_X6_number σ) σ := by
  refine ctI (L0 := [some (rf G 29), none, none]) (by decide +kernel) rfl rfl rfl (fun κ hk he hret => ?_)
  have hk : KO G κ cX6_number RX6 1 := hk
  refine vv_aload_n (i := 0) 1 hk dX6_number_0 rfl rfl rfl ?_
  refine vv_invIr (st := []) 4 hk he dX6_number_1 rfl ml_6_44 cf_X6_digit la_29 ci_6 (c_X6_digit G σ) rfl rfl rfl rfl (fun v1 => ?_)
  refine vv_istore_n (i := 1) 5 [some (rf G 29), some (.int v1), none] hk dX6_number_4 rfl rfl rfl rfl ?_
  refine vv_iload_n (i := 1) 6 hk dX6_number_5 rfl rfl rfl ?_
  refine vv_if_ge 11 9 hk dX6_number_6 rfl rfl ?_ ?_
  · skip
    refine vv_aload_n (i := 0) 12 hk dX6_number_11 rfl rfl rfl ?_
    refine vv_invV (st := []) 15 hk he dX6_number_12 rfl ml_6_30 cf_X6_go la_29 ci_6 (c_X6_go G σ) rfl rfl rfl rfl (fun σ2 => ?_)
    refine vv_iconst 16 hk dX6_number_15 rfl ic_1 ?_
    refine vv_istore_n (i := 2) 17 [some (rf G 29), some (.int v1), some (.int (1 : Int32))] hk dX6_number_16 rfl rfl rfl rfl ?_
    refine vv_lp (fun t3 => (t3.2.2, 17, [some (rf G 29), some (.int t3.1), some (.int t3.2.1)], [])) (fun kl17 hkl17 t3 => ?_) FU (v1, (1 : Int32), σ2)
    refine vv_iload_n (i := 2) 18 hk dX6_number_17 rfl rfl rfl ?_
    refine vv_iconst 19 hk dX6_number_18 rfl ic_5 ?_
    refine vv_icmp_ge 49 22 hk dX6_number_19 rfl rfl ?_ ?_
    · skip
      refine vv_iload_n (i := 1) 50 hk dX6_number_49 rfl rfl rfl ?_
      exact hret _ _ _ _ dX6_number_50
    · skip
      refine vv_aload_n (i := 0) 23 hk dX6_number_22 rfl rfl rfl ?_
      refine vv_invIr (st := []) 26 hk he dX6_number_23 rfl ml_6_44 cf_X6_digit la_29 ci_6 (c_X6_digit G t3.2.2) rfl rfl rfl rfl (fun v4 => ?_)
      refine vv_if_lt 49 29 hk dX6_number_26 rfl rfl ?_ ?_
      · skip
        refine vv_iload_n (i := 1) 50 hk dX6_number_49 rfl rfl rfl ?_
        exact hret _ _ _ _ dX6_number_50
      · skip
        refine vv_iload_n (i := 1) 30 hk dX6_number_29 rfl rfl rfl ?_
        refine vv_bipush 32 hk dX6_number_30 rfl bp_10 ?_
        refine vv_imul 33 hk dX6_number_32 rfl ?_
        refine vv_aload_n (i := 0) 34 hk dX6_number_33 rfl rfl rfl ?_
        refine vv_invIr (st := [(.int (t3.1 * (10 : Int32)))]) 37 hk he dX6_number_34 rfl ml_6_44 cf_X6_digit la_29 ci_6 (c_X6_digit G t3.2.2) rfl rfl rfl rfl (fun v5 => ?_)
        refine vv_iadd 38 hk dX6_number_37 rfl ?_
        refine vv_istore_nL (i := 1) 39 (fun x6 => [some (rf G 29), some (.int x6), some (.int t3.2.1)]) hk dX6_number_38 rfl rfl rfl (fun _ => rfl) (fun x6 => ?_)
        refine vv_aload_n (i := 0) 40 hk dX6_number_39 rfl rfl rfl ?_
        refine vv_invV (st := []) 43 hk he dX6_number_40 rfl ml_6_30 cf_X6_go la_29 ci_6 (c_X6_go G t3.2.2) rfl rfl rfl rfl (fun σ7 => ?_)
        refine vv_iinc 46 (fun x8 => [some (rf G 29), some (.int x6), some (.int x8)]) hk dX6_number_43 rfl rfl ic_1 (fun _ => rfl) (fun x8 => ?_)
        refine vv_goto 17 hk dX6_number_46 rfl ?_
        exact vv_le (ll_s rfl (ll_s rfl (ll_s rfl ll_0))) (hkl17 (x6, x8, σ7))
  · skip
    refine vv_iconst 10 hk dX6_number_9 rfl ic_m1 ?_
    exact hret _ _ _ _ dX6_number_10
theorem c_X6_comparison (G : GT) (σ : Hp) : CtI G true yX6_comparison cX6_comparison 5 (some .boolean) 2 [(rf G 29)] (f_X6_comparison σ) σ := by
  refine ctZ (L0 := [some (rf G 29), none, none, none, none]) (by decide +kernel) rfl rfl rfl (fun κ hk he hret => ?_)
  have hk : KO G κ cX6_comparison RX6 2 := hk
  refine vv_aload_n (i := 0) 1 hk dX6_comparison_0 rfl rfl rfl ?_
  refine vv_bipush 3 hk dX6_comparison_1 rfl bp_114 ?_
  refine vv_bipush 5 hk dX6_comparison_3 rfl bp_119 ?_
  refine vv_bipush 7 hk dX6_comparison_5 rfl bp_118 ?_
  refine vv_bipush 9 hk dX6_comparison_7 rfl bp_112 ?_
  refine vv_bipush 11 hk dX6_comparison_9 rfl bp_116 ?_
  refine vv_invIr (st := []) 14 hk he dX6_comparison_11 rfl ml_6_68 cf_X6_among la_29 ci_6 (c_X6_among G (114 : Int32) (119 : Int32) (118 : Int32) (112 : Int32) (116 : Int32) σ) rfl rfl rfl rfl (fun v1 => ?_)
  refine vv_istore_n (i := 1) 15 [some (rf G 29), some (.int v1), none, none, none] hk dX6_comparison_14 rfl rfl rfl rfl ?_
  refine vv_iload_n (i := 1) 16 hk dX6_comparison_15 rfl rfl rfl ?_
  refine vv_if_ge 21 19 hk dX6_comparison_16 rfl rfl ?_ ?_
  · skip
    refine vv_aload_n (i := 0) 22 hk dX6_comparison_21 rfl rfl rfl ?_
    refine vv_invV (st := []) 25 hk he dX6_comparison_22 rfl ml_6_30 cf_X6_go la_29 ci_6 (c_X6_go G σ) rfl rfl rfl rfl (fun σ2 => ?_)
    refine vv_iconst 26 hk dX6_comparison_25 rfl ic_0 ?_
    refine vv_istore_n (i := 2) 27 [some (rf G 29), some (.int v1), some (.int (0 : Int32)), none, none] hk dX6_comparison_26 rfl rfl rfl rfl ?_
    refine vv_iload_n (i := 1) 28 hk dX6_comparison_27 rfl rfl rfl ?_
    refine vv_iconst 29 hk dX6_comparison_28 rfl ic_4 ?_
    refine vv_jn (fun t3 => (t3.2, 47, [some (rf G 29), some (.int v1), some (.int t3.1), none, none], [])) (fun t3 => ?_) (fun k47 hk47 => ?_)
    · skip
      refine vv_aload_n (i := 0) 48 hk dX6_comparison_47 rfl rfl rfl ?_
      refine vv_bipush 50 hk dX6_comparison_48 rfl bp_60 ?_
      refine vv_bipush 52 hk dX6_comparison_50 rfl bp_61 ?_
      refine vv_bipush 54 hk dX6_comparison_52 rfl bp_62 ?_
      refine vv_bipush 56 hk dX6_comparison_54 rfl bp_62 ?_
      refine vv_bipush 58 hk dX6_comparison_56 rfl bp_62 ?_
      refine vv_invIr (st := []) 61 hk he dX6_comparison_58 rfl ml_6_68 cf_X6_among la_29 ci_6 (c_X6_among G (60 : Int32) (61 : Int32) (62 : Int32) (62 : Int32) (62 : Int32) t3.2) rfl rfl rfl rfl (fun v4 => ?_)
      refine vv_istore_n (i := 3) 62 [some (rf G 29), some (.int v1), some (.int t3.1), some (.int v4), none] hk dX6_comparison_61 rfl rfl rfl rfl ?_
      refine vv_iload_n (i := 3) 63 hk dX6_comparison_62 rfl rfl rfl ?_
      refine vv_if_ge 68 66 hk dX6_comparison_63 rfl rfl ?_ ?_
      · skip
        refine vv_aload_n (i := 0) 69 hk dX6_comparison_68 rfl rfl rfl ?_
        refine vv_invV (st := []) 72 hk he dX6_comparison_69 rfl ml_6_30 cf_X6_go la_29 ci_6 (c_X6_go G t3.2) rfl rfl rfl rfl (fun σ5 => ?_)
        refine vv_aload_n (i := 0) 73 hk dX6_comparison_72 rfl rfl rfl ?_
        refine vv_invI (st := []) 76 hk he dX6_comparison_73 rfl ml_6_74 cf_X6_number la_29 ci_6 (c_X6_number G σ5) rfl rfl rfl rfl (fun v6 σ7 => ?_)
        refine vv_istore 78 [some (rf G 29), some (.int v1), some (.int t3.1), some (.int v4), some (.int v6)] hk dX6_comparison_76 rfl rfl rfl ?_
        refine vv_iload 80 hk dX6_comparison_78 rfl rfl ?_
        refine vv_if_ge 85 83 hk dX6_comparison_80 rfl rfl ?_ ?_
        · skip
          refine vv_aload_n (i := 0) 86 hk dX6_comparison_85 rfl rfl rfl ?_
          refine vv_iconst 87 hk dX6_comparison_86 rfl ic_3 ?_
          refine vv_iload_n (i := 1) 88 hk dX6_comparison_87 rfl rfl rfl ?_
          refine vv_iconst 89 hk dX6_comparison_88 rfl ic_2 ?_
          refine vv_ishl 90 hk dX6_comparison_89 rfl ?_
          refine vv_ior 91 hk dX6_comparison_90 rfl ?_
          refine vv_iload_n (i := 2) 92 hk dX6_comparison_91 rfl rfl rfl ?_
          refine vv_iconst 93 hk dX6_comparison_92 rfl ic_5 ?_
          refine vv_ishl 94 hk dX6_comparison_93 rfl ?_
          refine vv_ior 95 hk dX6_comparison_94 rfl ?_
          refine vv_iload_n (i := 3) 96 hk dX6_comparison_95 rfl rfl rfl ?_
          refine vv_bipush 98 hk dX6_comparison_96 rfl bp_9 ?_
          refine vv_ishl 99 hk dX6_comparison_98 rfl ?_
          refine vv_ior 100 hk dX6_comparison_99 rfl ?_
          refine vv_iload 102 hk dX6_comparison_100 rfl rfl ?_
          refine vv_bipush 104 hk dX6_comparison_102 rfl bp_11 ?_
          refine vv_ishl 105 hk dX6_comparison_104 rfl ?_
          refine vv_ior 106 hk dX6_comparison_105 rfl ?_
          refine vv_invV (st := []) 109 hk he dX6_comparison_106 rfl ml_6_57 cf_X6_add la_29 ci_6 (c_X6_add G (((((3 : Int32) ||| (v1 <<< ((2 : Int32) &&& 31))) ||| (t3.1 <<< ((5 : Int32) &&& 31))) ||| (v4 <<< ((9 : Int32) &&& 31))) ||| (v6 <<< ((11 : Int32) &&& 31))) σ7) rfl rfl rfl rfl (fun σ8 => ?_)
          refine vv_iconst 110 hk dX6_comparison_109 rfl ic_1 ?_
          exact hret _ _ _ _ dX6_comparison_110
        · skip
          refine vv_iconst 84 hk dX6_comparison_83 rfl ic_0 ?_
          exact hret _ _ _ _ dX6_comparison_84
      · skip
        refine vv_iconst 67 hk dX6_comparison_66 rfl ic_0 ?_
        exact hret _ _ _ _ dX6_comparison_67
    · skip
      refine vv_icmp_eq 47 32 hk dX6_comparison_29 rfl rfl ?_ ?_
      · skip
        exact vv_le (ll_s rfl (ll_s rfl (ll_s rfl (ll_n (ll_n ll_0))))) (hk47 ((0 : Int32), σ2))
      · skip
        refine vv_aload_n (i := 0) 33 hk dX6_comparison_32 rfl rfl rfl ?_
        refine vv_invIr (st := []) 36 hk he dX6_comparison_33 rfl ml_6_44 cf_X6_digit la_29 ci_6 (c_X6_digit G σ2) rfl rfl rfl rfl (fun v9 => ?_)
        refine vv_istore_n (i := 2) 37 [some (rf G 29), some (.int v1), some (.int v9), none, none] hk dX6_comparison_36 rfl rfl rfl rfl ?_
        refine vv_iload_n (i := 2) 38 hk dX6_comparison_37 rfl rfl rfl ?_
        refine vv_if_ge 43 41 hk dX6_comparison_38 rfl rfl ?_ ?_
        · skip
          refine vv_aload_n (i := 0) 44 hk dX6_comparison_43 rfl rfl rfl ?_
          refine vv_invV (st := []) 47 hk he dX6_comparison_44 rfl ml_6_30 cf_X6_go la_29 ci_6 (c_X6_go G σ2) rfl rfl rfl rfl (fun σ10 => ?_)
          exact vv_le (ll_s rfl (ll_s rfl (ll_s rfl (ll_n (ll_n ll_0))))) (hk47 (v9, σ10))
        · skip
          refine vv_iconst 42 hk dX6_comparison_41 rfl ic_0 ?_
          exact hret _ _ _ _ dX6_comparison_42
  · skip
    refine vv_iconst 20 hk dX6_comparison_19 rfl ic_0 ?_
    exact hret _ _ _ _ dX6_comparison_20
theorem s_X6_part (G : GT) (n : Nat) (htest : ∀ (b1 : Int32) (σ : Hp), CtI G true yX6_test cX6_test 3 (some .boolean) (4 + n) [(rf G 29), (.int b1)] (f_X6_tpp n 0 b1 σ) σ) (hterm : ∀ (b1 : Int32) (σ : Hp), CtI G true yX6_term cX6_term 3 (some .boolean) (4 + n) [(rf G 29), (.int b1)] (f_X6_tpp n 1 b1 σ) σ) (hpart : ∀ (b1 : Int32) (σ : Hp), CtI G true yX6_part cX6_part 3 (some .boolean) (4 + n) [(rf G 29), (.int b1)] (f_X6_tpp n 2 b1 σ) σ) (a1 : Int32) (σ : Hp) : CtI G true yX6_part cX6_part 3 (some .boolean) (4 + (n + 1)) [(rf G 29), (.int a1)] (f_X6_part (f_X6_tpp n 0) (f_X6_tpp n 1) (f_X6_tpp n 2) a1 σ) σ := by
  refine ctZ (L0 := [some (rf G 29), some (.int a1), none]) (by decide +kernel) rfl rfl rfl (fun κ hk he hret => ?_)
  have hk : KO G κ cX6_part RX6 (4 + (n + 1)) := hk
  refine vv_aload_n (i := 0) 1 hk dX6_part_0 rfl rfl rfl ?_
  refine vv_getI 4 hk he dX6_part_1 rfl la_29 rfl ci_6 rfl fl_6_33 sd_29 ?_
  refine vv_bipush 6 hk dX6_part_4 rfl bp_33 ?_
  refine vv_jn (fun t1 => (σ, 14, [some (rf G 29), some (.int a1), none], [(.int t1)])) (fun t1 => ?_) (fun k14 hk14 => ?_)
  · skip
    refine vv_istore_n (i := 2) 15 [some (rf G 29), some (.int a1), some (.int t1)] hk dX6_part_14 rfl rfl rfl rfl ?_
    refine vv_iload_n (i := 2) 16 hk dX6_part_15 rfl rfl rfl ?_
    refine vv_jn (fun t2 => (σ, 33, [some (rf G 29), some (.int a1), some (.int t1)], [])) (fun t2 => ?_) (fun k33 hk33 => ?_)
    · skip
      refine vv_iload_n (i := 1) 34 hk dX6_part_33 rfl rfl rfl ?_
      refine vv_iconst 35 hk dX6_part_34 rfl ic_4 ?_
      refine vv_icmp_lt 40 38 hk dX6_part_35 rfl rfl ?_ ?_
      · skip
        refine vv_aload_n (i := 0) 41 hk dX6_part_40 rfl rfl rfl ?_
        refine vv_invV (st := []) 44 hk he dX6_part_41 rfl ml_6_30 cf_X6_go la_29 ci_6 (c_X6_go G σ) (blt_of (by omega)) rfl rfl rfl (fun σ3 => ?_)
        refine vv_iload_n (i := 2) 45 hk dX6_part_44 rfl rfl rfl ?_
        refine vv_if_ne 73 48 hk dX6_part_45 rfl rfl ?_ ?_
        · skip
          refine vv_aload_n (i := 0) 49 hk dX6_part_48 rfl rfl rfl ?_
          refine vv_iload_n (i := 1) 50 hk dX6_part_49 rfl rfl rfl ?_
          refine vv_iconst 51 hk dX6_part_50 rfl ic_1 ?_
          refine vv_iadd 52 hk dX6_part_51 rfl ?_
          refine vv_invI (st := []) 55 hk he dX6_part_52 rfl ml_6_51 cf_X6_test la_29 ci_6 (htest (a1 + (1 : Int32)) σ3) (blt_of (by omega)) rfl rfl rfl (fun v4 σ5 => ?_)
          refine vv_jn (fun t6 => (t6.2, 72, [some (rf G 29), none, none], [(.int t6.1)])) (fun t6 => ?_) (fun k72 hk72 => ?_)
          · skip
            exact hret _ _ _ _ dX6_part_72
          · skip
            refine vv_jn (fun t7 => (t7, 71, [some (rf G 29), none, none], [])) (fun t7 => ?_) (fun k71 hk71 => ?_)
            · skip
              refine vv_iconst 72 hk dX6_part_71 rfl ic_0 ?_
              exact vv_le (ll_s rfl (ll_n (ll_n ll_0))) (hk72 ((0 : Int32), t7))
            · skip
              refine vv_if_eq 71 58 hk dX6_part_55 rfl rfl ?_ ?_
              · skip
                exact vv_le (ll_s rfl (ll_n (ll_n ll_0))) (hk71 σ5)
              · skip
                refine vv_aload_n (i := 0) 59 hk dX6_part_58 rfl rfl rfl ?_
                refine vv_bipush 61 hk dX6_part_59 rfl bp_41 ?_
                refine vv_invI (st := []) 64 hk he dX6_part_61 rfl ml_6_40 cf_X6_skip la_29 ci_6 (c_X6_skip G (41 : Int32) σ5) (blt_of (by omega)) rfl rfl rfl (fun v8 σ9 => ?_)
                refine vv_if_eq 71 67 hk dX6_part_64 rfl rfl ?_ ?_
                · skip
                  exact vv_le (ll_s rfl (ll_n (ll_n ll_0))) (hk71 σ9)
                · skip
                  refine vv_iconst 68 hk dX6_part_67 rfl ic_1 ?_
                  refine vv_goto 72 hk dX6_part_68 rfl ?_
                  exact vv_le (ll_s rfl (ll_n (ll_n ll_0))) (hk72 ((1 : Int32), σ9))
        · skip
          refine vv_aload_n (i := 0) 74 hk dX6_part_73 rfl rfl rfl ?_
          refine vv_iload_n (i := 1) 75 hk dX6_part_74 rfl rfl rfl ?_
          refine vv_iconst 76 hk dX6_part_75 rfl ic_1 ?_
          refine vv_iadd 77 hk dX6_part_76 rfl ?_
          refine vv_invI (st := []) 80 hk he dX6_part_77 rfl ml_6_61 cf_X6_part la_29 ci_6 (hpart (a1 + (1 : Int32)) σ3) (blt_of (by omega)) rfl rfl rfl (fun v10 σ11 => ?_)
          refine vv_if_ne 85 83 hk dX6_part_80 rfl rfl ?_ ?_
          · skip
            refine vv_iconst 84 hk dX6_part_83 rfl ic_0 ?_
            exact hret _ _ _ _ dX6_part_84
          · skip
            refine vv_aload_n (i := 0) 86 hk dX6_part_85 rfl rfl rfl ?_
            refine vv_iconst 87 hk dX6_part_86 rfl ic_0 ?_
            refine vv_invV (st := []) 90 hk he dX6_part_87 rfl ml_6_57 cf_X6_add la_29 ci_6 (c_X6_add G (0 : Int32) σ11) (blt_of (by omega)) rfl rfl rfl (fun σ12 => ?_)
            refine vv_iconst 91 hk dX6_part_90 rfl ic_1 ?_
            exact hret _ _ _ _ dX6_part_91
      · skip
        refine vv_iconst 39 hk dX6_part_38 rfl ic_0 ?_
        exact hret _ _ _ _ dX6_part_39
    · skip
      refine vv_if_ne 33 19 hk dX6_part_16 rfl rfl ?_ ?_
      · skip
        refine vv_aload_n (i := 0) 20 hk dX6_part_19 rfl rfl rfl ?_
        refine vv_getI 23 hk he dX6_part_20 rfl la_29 rfl ci_6 rfl fl_6_33 sd_29 ?_
        refine vv_bipush 25 hk dX6_part_23 rfl bp_40 ?_
        refine vv_icmp_eq 33 28 hk dX6_part_25 rfl rfl ?_ ?_
        · skip
          exact vv_le (ll_s rfl (ll_s rfl (ll_s rfl ll_0))) (hk33 ())
        · skip
          refine vv_aload_n (i := 0) 29 hk dX6_part_28 rfl rfl rfl ?_
          refine vv_invI (st := []) 32 hk he dX6_part_29 rfl ml_6_64 cf_X6_comparison la_29 ci_6 (c_X6_comparison G σ) (blt_of (by omega)) rfl rfl rfl (fun v13 σ14 => ?_)
          exact hret _ _ _ _ dX6_part_32
      · skip
        exact vv_le (ll_s rfl (ll_s rfl (ll_s rfl ll_0))) (hk33 ())
  · skip
    refine vv_icmp_ne 13 9 hk dX6_part_6 rfl rfl ?_ ?_
    · skip
      refine vv_iconst 10 hk dX6_part_9 rfl ic_1 ?_
      refine vv_goto 14 hk dX6_part_10 rfl ?_
      exact vv_le (ll_s rfl (ll_s rfl (ll_n ll_0))) (hk14 (1 : Int32))
    · skip
      refine vv_iconst 14 hk dX6_part_13 rfl ic_0 ?_
      exact vv_le (ll_s rfl (ll_s rfl (ll_n ll_0))) (hk14 (0 : Int32))
theorem s_X6_term (G : GT) (n : Nat) (htest : ∀ (b1 : Int32) (σ : Hp), CtI G true yX6_test cX6_test 3 (some .boolean) (4 + n) [(rf G 29), (.int b1)] (f_X6_tpp n 0 b1 σ) σ) (hterm : ∀ (b1 : Int32) (σ : Hp), CtI G true yX6_term cX6_term 3 (some .boolean) (4 + n) [(rf G 29), (.int b1)] (f_X6_tpp n 1 b1 σ) σ) (hpart : ∀ (b1 : Int32) (σ : Hp), CtI G true yX6_part cX6_part 3 (some .boolean) (4 + n) [(rf G 29), (.int b1)] (f_X6_tpp n 2 b1 σ) σ) (a1 : Int32) (σ : Hp) : CtI G true yX6_term cX6_term 3 (some .boolean) (4 + (n + 1)) [(rf G 29), (.int a1)] (f_X6_term (f_X6_tpp n 0) (f_X6_tpp n 1) (f_X6_tpp n 2) a1 σ) σ := by
  refine ctZ (L0 := [some (rf G 29), some (.int a1), none]) (by decide +kernel) rfl rfl rfl (fun κ hk he hret => ?_)
  have hk : KO G κ cX6_term RX6 (4 + (n + 1)) := hk
  refine vv_aload_n (i := 0) 1 hk dX6_term_0 rfl rfl rfl ?_
  refine vv_iload_n (i := 1) 2 hk dX6_term_1 rfl rfl rfl ?_
  refine vv_invI (st := []) 5 hk he dX6_term_2 rfl ml_6_61 cf_X6_part la_29 ci_6 (hpart a1 σ) (blt_of (by omega)) rfl rfl rfl (fun v1 σ2 => ?_)
  refine vv_if_ne 10 8 hk dX6_term_5 rfl rfl ?_ ?_
  · skip
    refine vv_iconst 9 hk dX6_term_8 rfl ic_0 ?_
    exact hret _ _ _ _ dX6_term_9
  · skip
    refine vv_iconst 11 hk dX6_term_10 rfl ic_0 ?_
    refine vv_istore_n (i := 2) 12 [some (rf G 29), some (.int a1), some (.int (0 : Int32))] hk dX6_term_11 rfl rfl rfl rfl ?_
    refine vv_lp (fun t3 => (t3.2, 12, [some (rf G 29), some (.int a1), some (.int t3.1)], [])) (fun kl12 hkl12 t3 => ?_) FU ((0 : Int32), σ2)
    refine vv_iload_n (i := 2) 13 hk dX6_term_12 rfl rfl rfl ?_
    refine vv_bipush 15 hk dX6_term_13 rfl bp_40 ?_
    refine vv_icmp_ge 48 18 hk dX6_term_15 rfl rfl ?_ ?_
    · skip
      refine vv_iconst 49 hk dX6_term_48 rfl ic_1 ?_
      exact hret _ _ _ _ dX6_term_49
    · skip
      refine vv_aload_n (i := 0) 19 hk dX6_term_18 rfl rfl rfl ?_
      refine vv_bipush 21 hk dX6_term_19 rfl bp_38 ?_
      refine vv_invI (st := []) 24 hk he dX6_term_21 rfl ml_6_40 cf_X6_skip la_29 ci_6 (c_X6_skip G (38 : Int32) t3.2) (blt_of (by omega)) rfl rfl rfl (fun v4 σ5 => ?_)
      refine vv_if_eq 48 27 hk dX6_term_24 rfl rfl ?_ ?_
      · skip
        refine vv_iconst 49 hk dX6_term_48 rfl ic_1 ?_
        exact hret _ _ _ _ dX6_term_49
      · skip
        refine vv_aload_n (i := 0) 28 hk dX6_term_27 rfl rfl rfl ?_
        refine vv_iload_n (i := 1) 29 hk dX6_term_28 rfl rfl rfl ?_
        refine vv_invI (st := []) 32 hk he dX6_term_29 rfl ml_6_61 cf_X6_part la_29 ci_6 (hpart a1 σ5) (blt_of (by omega)) rfl rfl rfl (fun v6 σ7 => ?_)
        refine vv_if_ne 37 35 hk dX6_term_32 rfl rfl ?_ ?_
        · skip
          refine vv_iconst 36 hk dX6_term_35 rfl ic_0 ?_
          exact hret _ _ _ _ dX6_term_36
        · skip
          refine vv_aload_n (i := 0) 38 hk dX6_term_37 rfl rfl rfl ?_
          refine vv_iconst 39 hk dX6_term_38 rfl ic_1 ?_
          refine vv_invV (st := []) 42 hk he dX6_term_39 rfl ml_6_57 cf_X6_add la_29 ci_6 (c_X6_add G (1 : Int32) σ7) (blt_of (by omega)) rfl rfl rfl (fun σ8 => ?_)
          refine vv_iinc 45 (fun x9 => [some (rf G 29), some (.int a1), some (.int x9)]) hk dX6_term_42 rfl rfl ic_1 (fun _ => rfl) (fun x9 => ?_)
          refine vv_goto 12 hk dX6_term_45 rfl ?_
          exact vv_le (ll_s rfl (ll_s rfl (ll_s rfl ll_0))) (hkl12 (x9, σ8))
theorem s_X6_test (G : GT) (n : Nat) (htest : ∀ (b1 : Int32) (σ : Hp), CtI G true yX6_test cX6_test 3 (some .boolean) (4 + n) [(rf G 29), (.int b1)] (f_X6_tpp n 0 b1 σ) σ) (hterm : ∀ (b1 : Int32) (σ : Hp), CtI G true yX6_term cX6_term 3 (some .boolean) (4 + n) [(rf G 29), (.int b1)] (f_X6_tpp n 1 b1 σ) σ) (hpart : ∀ (b1 : Int32) (σ : Hp), CtI G true yX6_part cX6_part 3 (some .boolean) (4 + n) [(rf G 29), (.int b1)] (f_X6_tpp n 2 b1 σ) σ) (a1 : Int32) (σ : Hp) : CtI G true yX6_test cX6_test 3 (some .boolean) (4 + (n + 1)) [(rf G 29), (.int a1)] (f_X6_test (f_X6_tpp n 0) (f_X6_tpp n 1) (f_X6_tpp n 2) a1 σ) σ := by
  refine ctZ (L0 := [some (rf G 29), some (.int a1), none]) (by decide +kernel) rfl rfl rfl (fun κ hk he hret => ?_)
  have hk : KO G κ cX6_test RX6 (4 + (n + 1)) := hk
  refine vv_aload_n (i := 0) 1 hk dX6_test_0 rfl rfl rfl ?_
  refine vv_iload_n (i := 1) 2 hk dX6_test_1 rfl rfl rfl ?_
  refine vv_invI (st := []) 5 hk he dX6_test_2 rfl ml_6_54 cf_X6_term la_29 ci_6 (hterm a1 σ) (blt_of (by omega)) rfl rfl rfl (fun v1 σ2 => ?_)
  refine vv_if_ne 10 8 hk dX6_test_5 rfl rfl ?_ ?_
  · skip
    refine vv_iconst 9 hk dX6_test_8 rfl ic_0 ?_
    exact hret _ _ _ _ dX6_test_9
  · skip
    refine vv_iconst 11 hk dX6_test_10 rfl ic_0 ?_
    refine vv_istore_n (i := 2) 12 [some (rf G 29), some (.int a1), some (.int (0 : Int32))] hk dX6_test_11 rfl rfl rfl rfl ?_
    refine vv_lp (fun t3 => (t3.2, 12, [some (rf G 29), some (.int a1), some (.int t3.1)], [])) (fun kl12 hkl12 t3 => ?_) FU ((0 : Int32), σ2)
    refine vv_iload_n (i := 2) 13 hk dX6_test_12 rfl rfl rfl ?_
    refine vv_bipush 15 hk dX6_test_13 rfl bp_40 ?_
    refine vv_icmp_ge 48 18 hk dX6_test_15 rfl rfl ?_ ?_
    · skip
      refine vv_iconst 49 hk dX6_test_48 rfl ic_1 ?_
      exact hret _ _ _ _ dX6_test_49
    · skip
      refine vv_aload_n (i := 0) 19 hk dX6_test_18 rfl rfl rfl ?_
      refine vv_bipush 21 hk dX6_test_19 rfl bp_124 ?_
      refine vv_invI (st := []) 24 hk he dX6_test_21 rfl ml_6_40 cf_X6_skip la_29 ci_6 (c_X6_skip G (124 : Int32) t3.2) (blt_of (by omega)) rfl rfl rfl (fun v4 σ5 => ?_)
      refine vv_if_eq 48 27 hk dX6_test_24 rfl rfl ?_ ?_
      · skip
        refine vv_iconst 49 hk dX6_test_48 rfl ic_1 ?_
        exact hret _ _ _ _ dX6_test_49
      · skip
        refine vv_aload_n (i := 0) 28 hk dX6_test_27 rfl rfl rfl ?_
        refine vv_iload_n (i := 1) 29 hk dX6_test_28 rfl rfl rfl ?_
        refine vv_invI (st := []) 32 hk he dX6_test_29 rfl ml_6_54 cf_X6_term la_29 ci_6 (hterm a1 σ5) (blt_of (by omega)) rfl rfl rfl (fun v6 σ7 => ?_)
        refine vv_if_ne 37 35 hk dX6_test_32 rfl rfl ?_ ?_
        · skip
          refine vv_iconst 36 hk dX6_test_35 rfl ic_0 ?_
          exact hret _ _ _ _ dX6_test_36
        · skip
          refine vv_aload_n (i := 0) 38 hk dX6_test_37 rfl rfl rfl ?_
          refine vv_iconst 39 hk dX6_test_38 rfl ic_2 ?_
          refine vv_invV (st := []) 42 hk he dX6_test_39 rfl ml_6_57 cf_X6_add la_29 ci_6 (c_X6_add G (2 : Int32) σ7) (blt_of (by omega)) rfl rfl rfl (fun σ8 => ?_)
          refine vv_iinc 45 (fun x9 => [some (rf G 29), some (.int a1), some (.int x9)]) hk dX6_test_42 rfl rfl ic_1 (fun _ => rfl) (fun x9 => ?_)
          refine vv_goto 12 hk dX6_test_45 rfl ?_
          exact vv_le (ll_s rfl (ll_s rfl (ll_s rfl ll_0))) (hkl12 (x9, σ8))
theorem c_X6_tpp (G : GT) : ∀ n : Nat, (∀ (b1 : Int32) (σ : Hp), CtI G true yX6_test cX6_test 3 (some .boolean) (4 + n) [(rf G 29), (.int b1)] (f_X6_tpp n 0 b1 σ) σ) ∧ (∀ (b1 : Int32) (σ : Hp), CtI G true yX6_term cX6_term 3 (some .boolean) (4 + n) [(rf G 29), (.int b1)] (f_X6_tpp n 1 b1 σ) σ) ∧ (∀ (b1 : Int32) (σ : Hp), CtI G true yX6_part cX6_part 3 (some .boolean) (4 + n) [(rf G 29), (.int b1)] (f_X6_tpp n 2 b1 σ) σ)
  | 0 => ⟨fun _ _ _ _ _ _ _ h => (by cases h), fun _ _ _ _ _ _ _ h => (by cases h), fun _ _ _ _ _ _ _ h => (by cases h)⟩
  | n + 1 => ⟨fun b1 σ => s_X6_test G n (c_X6_tpp G n).1 (c_X6_tpp G n).2.1 (c_X6_tpp G n).2.2 b1 σ, fun b1 σ => s_X6_term G n (c_X6_tpp G n).1 (c_X6_tpp G n).2.1 (c_X6_tpp G n).2.2 b1 σ, fun b1 σ => s_X6_part G n (c_X6_tpp G n).1 (c_X6_tpp G n).2.1 (c_X6_tpp G n).2.2 b1 σ⟩
theorem c_X6_test (G : GT) (b1 : Int32) (σ : Hp) : CtI G true yX6_test cX6_test 3 (some .boolean) 28 [(rf G 29), (.int b1)] (f_X6_tpp 24 0 b1 σ) σ := (c_X6_tpp G 24).1 b1 σ
theorem c_X6_term (G : GT) (b1 : Int32) (σ : Hp) : CtI G true yX6_term cX6_term 3 (some .boolean) 28 [(rf G 29), (.int b1)] (f_X6_tpp 24 1 b1 σ) σ := (c_X6_tpp G 24).2.1 b1 σ
theorem c_X6_part (G : GT) (b1 : Int32) (σ : Hp) : CtI G true yX6_part cX6_part 3 (some .boolean) 28 [(rf G 29), (.int b1)] (f_X6_tpp 24 2 b1 σ) σ := (c_X6_tpp G 24).2.2 b1 σ

theorem c_X6_parses (G : GT) (σ : Hp) : CtI G true yX6_parses cX6_parses 1 (some .boolean) 29 [(rf G 29)] (f_X6_parses σ) σ := by
  refine ctZ (L0 := [some (rf G 29)]) (by decide +kernel) rfl rfl rfl (fun κ hk he hret => ?_)
  have hk : KO G κ cX6_parses RX6 29 := hk
  refine vv_aload_n (i := 0) 1 hk dX6_parses_0 rfl rfl rfl ?_
  refine vv_iconst 2 hk dX6_parses_1 rfl ic_0 ?_
  refine vv_putI 5 hk he dX6_parses_2 rfl la_29 rfl ci_6 rfl fl_6_24 sd_29 rfl rfl (fun σ1 => ?_)
  refine vv_aload_n (i := 0) 6 hk dX6_parses_5 rfl rfl rfl ?_
  refine vv_iconst 7 hk dX6_parses_6 rfl ic_m1 ?_
  refine vv_putI 10 hk he dX6_parses_7 rfl la_29 rfl ci_6 rfl fl_6_27 sd_29 rfl rfl (fun σ2 => ?_)
  refine vv_aload_n (i := 0) 11 hk dX6_parses_10 rfl rfl rfl ?_
  refine vv_invV (st := []) 14 hk he dX6_parses_11 rfl ml_6_30 cf_X6_go la_29 ci_6 (c_X6_go G σ2) rfl rfl rfl rfl (fun σ3 => ?_)
  refine vv_aload_n (i := 0) 15 hk dX6_parses_14 rfl rfl rfl ?_
  refine vv_aload_n (i := 0) 16 hk dX6_parses_15 rfl rfl rfl ?_
  refine vv_getI 19 hk he dX6_parses_16 rfl la_29 rfl ci_6 rfl fl_6_33 sd_29 ?_
  refine vv_bipush 21 hk dX6_parses_19 rfl bp_80 ?_
  refine vv_jn (fun t4 => (σ3, 29, [some (rf G 29)], [(.int t4), (rf G 29)])) (fun t4 => ?_) (fun k29 hk29 => ?_)
  · skip
    refine vv_putZ 32 hk he dX6_parses_29 rfl la_29 rfl ci_6 rfl fl_6_36 sd_29 rfl rfl (fun σ5 => ?_)
    refine vv_aload_n (i := 0) 33 hk dX6_parses_32 rfl rfl rfl ?_
    refine vv_bipush 35 hk dX6_parses_33 rfl bp_80 ?_
    refine vv_invI (st := []) 38 hk he dX6_parses_35 rfl ml_6_40 cf_X6_skip la_29 ci_6 (c_X6_skip G (80 : Int32) σ5) rfl rfl rfl rfl (fun v6 σ7 => ?_)
    refine vv_jn (fun t8 => (t8, 52, [some (rf G 29)], [])) (fun t8 => ?_) (fun k52 hk52 => ?_)
    · skip
      refine vv_aload_n (i := 0) 53 hk dX6_parses_52 rfl rfl rfl ?_
      refine vv_aload_n (i := 0) 54 hk dX6_parses_53 rfl rfl rfl ?_
      refine vv_invIr (st := [(rf G 29)]) 57 hk he dX6_parses_54 rfl ml_6_44 cf_X6_digit la_29 ci_6 (c_X6_digit G t8) rfl rfl rfl rfl (fun v9 => ?_)
      refine vv_putI 60 hk he dX6_parses_57 rfl la_29 rfl ci_6 rfl fl_6_48 sd_29 rfl rfl (fun σ10 => ?_)
      refine vv_aload_n (i := 0) 61 hk dX6_parses_60 rfl rfl rfl ?_
      refine vv_getI 64 hk he dX6_parses_61 rfl la_29 rfl ci_6 rfl fl_6_48 sd_29 ?_
      refine vv_if_ge 69 67 hk dX6_parses_64 rfl rfl ?_ ?_
      · skip
        refine vv_aload_n (i := 0) 70 hk dX6_parses_69 rfl rfl rfl ?_
        refine vv_invV (st := []) 73 hk he dX6_parses_70 rfl ml_6_30 cf_X6_go la_29 ci_6 (c_X6_go G σ10) rfl rfl rfl rfl (fun σ11 => ?_)
        refine vv_aload_n (i := 0) 74 hk dX6_parses_73 rfl rfl rfl ?_
        refine vv_bipush 76 hk dX6_parses_74 rfl bp_58 ?_
        refine vv_invI (st := []) 79 hk he dX6_parses_76 rfl ml_6_40 cf_X6_skip la_29 ci_6 (c_X6_skip G (58 : Int32) σ11) rfl rfl rfl rfl (fun v12 σ13 => ?_)
        refine vv_jn (fun t14 => (t14.2, 106, [some (rf G 29)], [(.int t14.1)])) (fun t14 => ?_) (fun k106 hk106 => ?_)
        · skip
          exact hret _ _ _ _ dX6_parses_106
        · skip
          refine vv_jn (fun t15 => (t15, 105, [some (rf G 29)], [])) (fun t15 => ?_) (fun k105 hk105 => ?_)
          · skip
            refine vv_iconst 106 hk dX6_parses_105 rfl ic_0 ?_
            exact vv_le (ll_s rfl ll_0) (hk106 ((0 : Int32), t15))
          · skip
            refine vv_if_eq 105 82 hk dX6_parses_79 rfl rfl ?_ ?_
            · skip
              exact vv_le (ll_s rfl ll_0) (hk105 σ13)
            · skip
              refine vv_aload_n (i := 0) 83 hk dX6_parses_82 rfl rfl rfl ?_
              refine vv_iconst 84 hk dX6_parses_83 rfl ic_0 ?_
              refine vv_invI (st := []) 87 hk he dX6_parses_84 rfl ml_6_51 cf_X6_test la_29 ci_6 (c_X6_test G (0 : Int32) σ13) rfl rfl rfl rfl (fun v16 σ17 => ?_)
              refine vv_if_eq 105 90 hk dX6_parses_87 rfl rfl ?_ ?_
              · skip
                exact vv_le (ll_s rfl ll_0) (hk105 σ17)
              · skip
                refine vv_aload_n (i := 0) 91 hk dX6_parses_90 rfl rfl rfl ?_
                refine vv_getI 94 hk he dX6_parses_91 rfl la_29 rfl ci_6 rfl fl_6_27 sd_29 ?_
                refine vv_aload_n (i := 0) 95 hk dX6_parses_94 rfl rfl rfl ?_
                refine vv_getI 98 hk he dX6_parses_95 rfl la_29 rfl ci_6 rfl fl_6_18 sd_29 ?_
                refine vv_icmp_ne 105 101 hk dX6_parses_98 rfl rfl ?_ ?_
                · skip
                  refine vv_iconst 102 hk dX6_parses_101 rfl ic_1 ?_
                  refine vv_goto 106 hk dX6_parses_102 rfl ?_
                  exact vv_le (ll_s rfl ll_0) (hk106 ((1 : Int32), σ17))
                · skip
                  exact vv_le (ll_s rfl ll_0) (hk105 σ17)
      · skip
        refine vv_iconst 68 hk dX6_parses_67 rfl ic_0 ?_
        exact hret _ _ _ _ dX6_parses_68
    · skip
      refine vv_if_ne 52 41 hk dX6_parses_38 rfl rfl ?_ ?_
      · skip
        refine vv_aload_n (i := 0) 42 hk dX6_parses_41 rfl rfl rfl ?_
        refine vv_bipush 44 hk dX6_parses_42 rfl bp_86 ?_
        refine vv_invI (st := []) 47 hk he dX6_parses_44 rfl ml_6_40 cf_X6_skip la_29 ci_6 (c_X6_skip G (86 : Int32) σ7) rfl rfl rfl rfl (fun v18 σ19 => ?_)
        refine vv_if_ne 52 50 hk dX6_parses_47 rfl rfl ?_ ?_
        · skip
          refine vv_iconst 51 hk dX6_parses_50 rfl ic_0 ?_
          exact hret _ _ _ _ dX6_parses_51
        · skip
          exact vv_le (ll_s rfl ll_0) (hk52 σ19)
      · skip
        exact vv_le (ll_s rfl ll_0) (hk52 σ7)
  · skip
    refine vv_icmp_ne 28 24 hk dX6_parses_21 rfl rfl ?_ ?_
    · skip
      refine vv_iconst 25 hk dX6_parses_24 rfl ic_1 ?_
      refine vv_goto 29 hk dX6_parses_25 rfl ?_
      exact vv_le (ll_s rfl ll_0) (hk29 (1 : Int32))
    · skip
      refine vv_iconst 29 hk dX6_parses_28 rfl ic_0 ?_
      exact vv_le (ll_s rfl ll_0) (hk29 (0 : Int32))
theorem c_X8_add (G : GT) (σ : Hp) : CtI G true yX8_add cX8_add 2 (some .int) 0 [(rf G 32), (rf G 29)] (f_X8_add σ) σ := by
  refine ctI (L0 := [some (rf G 32), some (rf G 29)]) (by decide +kernel) rfl rfl rfl (fun κ hk he hret => ?_)
  have hk : KO G κ cX8_add RX8 0 := hk
  refine vv_aload_n (i := 0) 1 hk dX8_add_0 rfl rfl rfl ?_
  refine vv_getI 4 hk he dX8_add_1 rfl la_32 rfl ci_8 rfl fl_8_31 sd_32 ?_
  refine vv_bipush 6 hk dX8_add_4 rfl bp_16 ?_
  refine vv_icmp_lt 12 9 hk dX8_add_6 rfl rfl ?_ ?_
  · skip
    refine vv_aload_n (i := 0) 13 hk dX8_add_12 rfl rfl rfl ?_
    refine vv_getR 16 hk dX8_add_13 rfl la_32 rfl ci_8 rfl fl_8_9 ?_
    refine vv_aload_n (i := 0) 17 hk dX8_add_16 rfl rfl rfl ?_
    refine vv_getI 20 hk he dX8_add_17 rfl la_32 rfl ci_8 rfl fl_8_31 sd_32 ?_
    refine vv_aload_n (i := 1) 21 hk dX8_add_20 rfl rfl rfl ?_
    refine vv_getI 24 hk he dX8_add_21 rfl la_29 rfl ci_6 rfl fl_8_35 sd_29 ?_
    refine vv_iast 25 hk he dX8_add_24 rfl la_33 sd_33 (fun σ1 => ?_)
    refine vv_aload_n (i := 0) 26 hk dX8_add_25 rfl rfl rfl ?_
    refine vv_getR 29 hk dX8_add_26 rfl la_32 rfl ci_8 rfl fl_8_15 ?_
    refine vv_aload_n (i := 0) 30 hk dX8_add_29 rfl rfl rfl ?_
    refine vv_getI 33 hk he dX8_add_30 rfl la_32 rfl ci_8 rfl fl_8_31 sd_32 ?_
    refine vv_aload_n (i := 1) 34 hk dX8_add_33 rfl rfl rfl ?_
    refine vv_getI 37 hk he dX8_add_34 rfl la_29 rfl ci_6 rfl fl_8_39 sd_29 ?_
    refine vv_iast 38 hk he dX8_add_37 rfl la_34 sd_34 (fun σ2 => ?_)
    refine vv_aload_n (i := 1) 39 hk dX8_add_38 rfl rfl rfl ?_
    refine vv_getR 42 hk dX8_add_39 rfl la_29 rfl ci_6 rfl fl_8_41 ?_
    refine vv_iconst 43 hk dX8_add_42 rfl ic_0 ?_
    refine vv_aload_n (i := 0) 44 hk dX8_add_43 rfl rfl rfl ?_
    refine vv_getR 47 hk dX8_add_44 rfl la_32 rfl ci_8 rfl fl_8_20 ?_
    refine vv_aload_n (i := 0) 48 hk dX8_add_47 rfl rfl rfl ?_
    refine vv_getI 51 hk he dX8_add_48 rfl la_32 rfl ci_8 rfl fl_8_31 sd_32 ?_
    refine vv_aald 52 hk dX8_add_51 rfl la_35 stepCell step_cells (fun r3 hr3 => ?_)
    refine vv_iconst 53 hk dX8_add_52 rfl ic_0 ?_
    refine vv_bipush 55 hk dX8_add_53 rfl bp_40 ?_
    refine vv_copy 58 hk he dX8_add_55 rfl ml_8_43 la_31 hr3.1 sd_31 hr3.2 (Nat.le_of_ble_eq_true rfl) (fun σ4 => ?_)
    refine vv_aload_n (i := 0) 59 hk dX8_add_58 rfl rfl rfl ?_
    refine vv_dup 60 hk dX8_add_59 rfl rfl ?_
    refine vv_getI 63 hk he dX8_add_60 rfl la_32 rfl ci_8 rfl fl_8_49 sd_32 ?_
    refine vv_iconst 64 hk dX8_add_63 rfl ic_1 ?_
    refine vv_aload_n (i := 0) 65 hk dX8_add_64 rfl rfl rfl ?_
    refine vv_getI 68 hk he dX8_add_65 rfl la_32 rfl ci_8 rfl fl_8_31 sd_32 ?_
    refine vv_ishl 69 hk dX8_add_68 rfl ?_
    refine vv_ior 70 hk dX8_add_69 rfl ?_
    refine vv_putI 73 hk he dX8_add_70 rfl la_32 rfl ci_8 rfl fl_8_49 sd_32 rfl rfl (fun σ5 => ?_)
    refine vv_aload_n (i := 0) 74 hk dX8_add_73 rfl rfl rfl ?_
    refine vv_dup 75 hk dX8_add_74 rfl rfl ?_
    refine vv_getI 78 hk he dX8_add_75 rfl la_32 rfl ci_8 rfl fl_8_52 sd_32 ?_
    refine vv_aload_n (i := 1) 79 hk dX8_add_78 rfl rfl rfl ?_
    refine vv_getI 82 hk he dX8_add_79 rfl la_29 rfl ci_6 rfl fl_8_55 sd_29 ?_
    refine vv_jn (fun t6 => (σ5, 95, [some (rf G 32), some (rf G 29)], [(.int t6), (.int (σ5.1 32 4)), (rf G 32)])) (fun t6 => ?_) (fun k95 hk95 => ?_)
    · skip
      refine vv_ior 96 hk dX8_add_95 rfl ?_
      refine vv_putI 99 hk he dX8_add_96 rfl la_32 rfl ci_8 rfl fl_8_52 sd_32 rfl rfl (fun σ7 => ?_)
      refine vv_aload_n (i := 0) 100 hk dX8_add_99 rfl rfl rfl ?_
      refine vv_dup 101 hk dX8_add_100 rfl rfl ?_
      refine vv_getI 104 hk he dX8_add_101 rfl la_32 rfl ci_8 rfl fl_8_31 sd_32 ?_
      refine vv_dup_x1 105 hk dX8_add_104 rfl rfl rfl ?_
      refine vv_iconst 106 hk dX8_add_105 rfl ic_1 ?_
      refine vv_iadd 107 hk dX8_add_106 rfl ?_
      refine vv_putI 110 hk he dX8_add_107 rfl la_32 rfl ci_8 rfl fl_8_31 sd_32 rfl rfl (fun σ8 => ?_)
      exact hret _ _ _ _ dX8_add_110
    · skip
      refine vv_if_eq 94 85 hk dX8_add_82 rfl rfl ?_ ?_
      · skip
        refine vv_iconst 95 hk dX8_add_94 rfl ic_0 ?_
        exact vv_le (ll_s rfl (ll_s rfl ll_0)) (hk95 (0 : Int32))
      · skip
        refine vv_iconst 86 hk dX8_add_85 rfl ic_1 ?_
        refine vv_aload_n (i := 0) 87 hk dX8_add_86 rfl rfl rfl ?_
        refine vv_getI 90 hk he dX8_add_87 rfl la_32 rfl ci_8 rfl fl_8_31 sd_32 ?_
        refine vv_ishl 91 hk dX8_add_90 rfl ?_
        refine vv_goto 95 hk dX8_add_91 rfl ?_
        exact vv_le (ll_s rfl (ll_s rfl ll_0)) (hk95 ((1 : Int32) <<< ((σ5.1 32 2) &&& 31)))
  · skip
    refine vv_bipush 11 hk dX8_add_9 rfl bp_m9 ?_
    exact hret _ _ _ _ dX8_add_11
theorem c_X9_addSight (G : GT) (a1 : Int32) (a2 : Int32) (σ : Hp) : CtI G true yX9_addSight cX9_addSight 3 (some .int) 0 [(rf G 77), (.int a1), (.int a2)] (f_X9_addSight a1 a2 σ) σ := by
  refine ctI (L0 := [some (rf G 77), some (.int a1), some (.int a2)]) (by decide +kernel) rfl rfl rfl (fun κ hk he hret => ?_)
  have hk : KO G κ cX9_addSight RX9 0 := hk
  refine vv_aload_n (i := 0) 1 hk dX9_addSight_0 rfl rfl rfl ?_
  refine vv_getI 4 hk he dX9_addSight_1 rfl la_77 rfl ci_9 rfl fl_9_44 sd_77 ?_
  refine vv_bipush 6 hk dX9_addSight_4 rfl bp_20 ?_
  refine vv_icmp_ge 39 9 hk dX9_addSight_6 rfl rfl ?_ ?_
  · skip
    refine vv_aload_n (i := 0) 40 hk dX9_addSight_39 rfl rfl rfl ?_
    refine vv_getI 43 hk he dX9_addSight_40 rfl la_77 rfl ci_9 rfl fl_9_44 sd_77 ?_
    exact hret _ _ _ _ dX9_addSight_43
  · skip
    refine vv_aload_n (i := 0) 10 hk dX9_addSight_9 rfl rfl rfl ?_
    refine vv_getR 13 hk dX9_addSight_10 rfl la_77 rfl ci_9 rfl fl_9_21 ?_
    refine vv_aload_n (i := 0) 14 hk dX9_addSight_13 rfl rfl rfl ?_
    refine vv_getI 17 hk he dX9_addSight_14 rfl la_77 rfl ci_9 rfl fl_9_44 sd_77 ?_
    refine vv_iload_n (i := 1) 18 hk dX9_addSight_17 rfl rfl rfl ?_
    refine vv_iast 19 hk he dX9_addSight_18 rfl la_81 sd_81 (fun σ1 => ?_)
    refine vv_aload_n (i := 0) 20 hk dX9_addSight_19 rfl rfl rfl ?_
    refine vv_getR 23 hk dX9_addSight_20 rfl la_77 rfl ci_9 rfl fl_9_24 ?_
    refine vv_aload_n (i := 0) 24 hk dX9_addSight_23 rfl rfl rfl ?_
    refine vv_getI 27 hk he dX9_addSight_24 rfl la_77 rfl ci_9 rfl fl_9_44 sd_77 ?_
    refine vv_iload_n (i := 2) 28 hk dX9_addSight_27 rfl rfl rfl ?_
    refine vv_zast 29 hk he dX9_addSight_28 rfl la_82 sd_82 (fun σ2 => ?_)
    refine vv_aload_n (i := 0) 30 hk dX9_addSight_29 rfl rfl rfl ?_
    refine vv_dup 31 hk dX9_addSight_30 rfl rfl ?_
    refine vv_getI 34 hk he dX9_addSight_31 rfl la_77 rfl ci_9 rfl fl_9_44 sd_77 ?_
    refine vv_iconst 35 hk dX9_addSight_34 rfl ic_1 ?_
    refine vv_iadd 36 hk dX9_addSight_35 rfl ?_
    refine vv_putI 39 hk he dX9_addSight_36 rfl la_77 rfl ci_9 rfl fl_9_44 sd_77 rfl rfl (fun σ3 => ?_)
    refine vv_aload_n (i := 0) 40 hk dX9_addSight_39 rfl rfl rfl ?_
    refine vv_getI 43 hk he dX9_addSight_40 rfl la_77 rfl ci_9 rfl fl_9_44 sd_77 ?_
    exact hret _ _ _ _ dX9_addSight_43
theorem c_X9_addSpray (G : GT) (a1 : Int32) (a2 : Int32) (σ : Hp) : CtI G true yX9_addSpray cX9_addSpray 3 (some .int) 0 [(rf G 77), (.int a1), (.int a2)] (f_X9_addSpray a1 a2 σ) σ := by
  refine ctI (L0 := [some (rf G 77), some (.int a1), some (.int a2)]) (by decide +kernel) rfl rfl rfl (fun κ hk he hret => ?_)
  have hk : KO G κ cX9_addSpray RX9 0 := hk
  refine vv_aload_n (i := 0) 1 hk dX9_addSpray_0 rfl rfl rfl ?_
  refine vv_getI 4 hk he dX9_addSpray_1 rfl la_77 rfl ci_9 rfl fl_9_40 sd_77 ?_
  refine vv_bipush 6 hk dX9_addSpray_4 rfl bp_20 ?_
  refine vv_icmp_ge 39 9 hk dX9_addSpray_6 rfl rfl ?_ ?_
  · skip
    refine vv_aload_n (i := 0) 40 hk dX9_addSpray_39 rfl rfl rfl ?_
    refine vv_getI 43 hk he dX9_addSpray_40 rfl la_77 rfl ci_9 rfl fl_9_40 sd_77 ?_
    exact hret _ _ _ _ dX9_addSpray_43
  · skip
    refine vv_aload_n (i := 0) 10 hk dX9_addSpray_9 rfl rfl rfl ?_
    refine vv_getR 13 hk dX9_addSpray_10 rfl la_77 rfl ci_9 rfl fl_9_15 ?_
    refine vv_aload_n (i := 0) 14 hk dX9_addSpray_13 rfl rfl rfl ?_
    refine vv_getI 17 hk he dX9_addSpray_14 rfl la_77 rfl ci_9 rfl fl_9_40 sd_77 ?_
    refine vv_iload_n (i := 1) 18 hk dX9_addSpray_17 rfl rfl rfl ?_
    refine vv_iast 19 hk he dX9_addSpray_18 rfl la_79 sd_79 (fun σ1 => ?_)
    refine vv_aload_n (i := 0) 20 hk dX9_addSpray_19 rfl rfl rfl ?_
    refine vv_getR 23 hk dX9_addSpray_20 rfl la_77 rfl ci_9 rfl fl_9_18 ?_
    refine vv_aload_n (i := 0) 24 hk dX9_addSpray_23 rfl rfl rfl ?_
    refine vv_getI 27 hk he dX9_addSpray_24 rfl la_77 rfl ci_9 rfl fl_9_40 sd_77 ?_
    refine vv_iload_n (i := 2) 28 hk dX9_addSpray_27 rfl rfl rfl ?_
    refine vv_iast 29 hk he dX9_addSpray_28 rfl la_80 sd_80 (fun σ2 => ?_)
    refine vv_aload_n (i := 0) 30 hk dX9_addSpray_29 rfl rfl rfl ?_
    refine vv_dup 31 hk dX9_addSpray_30 rfl rfl ?_
    refine vv_getI 34 hk he dX9_addSpray_31 rfl la_77 rfl ci_9 rfl fl_9_40 sd_77 ?_
    refine vv_iconst 35 hk dX9_addSpray_34 rfl ic_1 ?_
    refine vv_iadd 36 hk dX9_addSpray_35 rfl ?_
    refine vv_putI 39 hk he dX9_addSpray_36 rfl la_77 rfl ci_9 rfl fl_9_40 sd_77 rfl rfl (fun σ3 => ?_)
    refine vv_aload_n (i := 0) 40 hk dX9_addSpray_39 rfl rfl rfl ?_
    refine vv_getI 43 hk he dX9_addSpray_40 rfl la_77 rfl ci_9 rfl fl_9_40 sd_77 ?_
    exact hret _ _ _ _ dX9_addSpray_43
theorem c_X2_draw (G : GT) (a1 : Int32) (a2 : Int32) (a3 : Int32) (σ : Hp) : CtI G true yX2_draw cX2_draw 6 (some .boolean) 0 [(rf G 63), (.int a1), (.int a2), (.int a3)] (f_X2_draw a1 a2 a3 σ) σ := by
  refine ctZ (L0 := [some (rf G 63), some (.int a1), some (.int a2), some (.int a3), none, none]) (by decide +kernel) rfl rfl rfl (fun κ hk he hret => ?_)
  have hk : KO G κ cX2_draw RX2 0 := hk
  refine vv_iload_n (i := 2) 1 hk dX2_draw_0 rfl rfl rfl ?_
  refine vv_iconst 2 hk dX2_draw_1 rfl ic_5 ?_
  refine vv_imul 3 hk dX2_draw_2 rfl ?_
  refine vv_iload_n (i := 1) 4 hk dX2_draw_3 rfl rfl rfl ?_
  refine vv_iadd 5 hk dX2_draw_4 rfl ?_
  refine vv_istoreL 7 (fun x1 => [some (rf G 63), some (.int a1), some (.int a2), some (.int a3), some (.int x1), none]) hk dX2_draw_5 rfl rfl (fun _ => rfl) (fun x1 => ?_)
  refine vv_aload_n (i := 0) 8 hk dX2_draw_7 rfl rfl rfl ?_
  refine vv_getR 11 hk dX2_draw_8 rfl la_63 rfl ci_2 rfl fl_2_9 ?_
  refine vv_iload 13 hk dX2_draw_11 rfl rfl ?_
  refine vv_zald 14 hk he dX2_draw_13 rfl la_64 sd_64 (fun v2 => ?_)
  refine vv_iload_n (i := 3) 15 hk dX2_draw_14 rfl rfl rfl ?_
  refine vv_jn (fun t3 => (σ, 23, [some (rf G 63), none, none, some (.int a3), some (.int x1), none], [(.int t3)])) (fun t3 => ?_) (fun k23 hk23 => ?_)
  · skip
    refine vv_istore 25 [some (rf G 63), none, none, some (.int a3), some (.int x1), some (.int t3)] hk dX2_draw_23 rfl rfl rfl ?_
    refine vv_aload_n (i := 0) 26 hk dX2_draw_25 rfl rfl rfl ?_
    refine vv_getR 29 hk dX2_draw_26 rfl la_63 rfl ci_2 rfl fl_2_9 ?_
    refine vv_iload 31 hk dX2_draw_29 rfl rfl ?_
    refine vv_iload_n (i := 3) 32 hk dX2_draw_31 rfl rfl rfl ?_
    refine vv_zast 33 hk he dX2_draw_32 rfl la_64 sd_64 (fun σ4 => ?_)
    refine vv_iload 35 hk dX2_draw_33 rfl rfl ?_
    exact hret _ _ _ _ dX2_draw_35
  · skip
    refine vv_icmp_eq 22 18 hk dX2_draw_15 rfl rfl ?_ ?_
    · skip
      refine vv_iconst 23 hk dX2_draw_22 rfl ic_0 ?_
      exact vv_le (ll_s rfl (ll_n (ll_n (ll_s rfl (ll_s rfl (ll_n ll_0)))))) (hk23 (0 : Int32))
    · skip
      refine vv_iconst 19 hk dX2_draw_18 rfl ic_1 ?_
      refine vv_goto 23 hk dX2_draw_19 rfl ?_
      exact vv_le (ll_s rfl (ll_n (ll_n (ll_s rfl (ll_s rfl (ll_n ll_0)))))) (hk23 (1 : Int32))
theorem c_X1_tell (G : GT) (a1 : Int32) (a2 : Int32) (a3 : Int32) (a4 : Int32) (a5 : Int32) (σ : Hp) : CtV G true yX1_tell cX1_tell 6 none 0 [(rf G 72), (.int a1), (.int a2), (.int a3), (.int a4), (.int a5)] (f_X1_tell a1 a2 a3 a4 a5 σ) σ := by
  refine ctV (L0 := [some (rf G 72), some (.int a1), some (.int a2), some (.int a3), some (.int a4), some (.int a5)]) (by decide +kernel) rfl rfl rfl (fun κ hk he hret => ?_)
  have hk : KO G κ cX1_tell RX1 0 := hk
  refine vv_aload_n (i := 0) 1 hk dX1_tell_0 rfl rfl rfl ?_
  refine vv_getR 4 hk dX1_tell_1 rfl la_72 rfl ci_1 rfl fl_1_11 ?_
  refine vv_iload_n (i := 1) 5 hk dX1_tell_4 rfl rfl rfl ?_
  refine vv_iload_n (i := 2) 6 hk dX1_tell_5 rfl rfl rfl ?_
  refine vv_iast 7 hk he dX1_tell_6 rfl la_73 sd_73 (fun σ1 => ?_)
  refine vv_aload_n (i := 0) 8 hk dX1_tell_7 rfl rfl rfl ?_
  refine vv_getR 11 hk dX1_tell_8 rfl la_72 rfl ci_1 rfl fl_1_15 ?_
  refine vv_iload_n (i := 1) 12 hk dX1_tell_11 rfl rfl rfl ?_
  refine vv_iload_n (i := 3) 13 hk dX1_tell_12 rfl rfl rfl ?_
  refine vv_iast 14 hk he dX1_tell_13 rfl la_74 sd_74 (fun σ2 => ?_)
  refine vv_aload_n (i := 0) 15 hk dX1_tell_14 rfl rfl rfl ?_
  refine vv_getR 18 hk dX1_tell_15 rfl la_72 rfl ci_1 rfl fl_1_18 ?_
  refine vv_iload_n (i := 1) 19 hk dX1_tell_18 rfl rfl rfl ?_
  refine vv_iload 21 hk dX1_tell_19 rfl rfl ?_
  refine vv_iast 22 hk he dX1_tell_21 rfl la_75 sd_75 (fun σ3 => ?_)
  refine vv_aload_n (i := 0) 23 hk dX1_tell_22 rfl rfl rfl ?_
  refine vv_getR 26 hk dX1_tell_23 rfl la_72 rfl ci_1 rfl fl_1_21 ?_
  refine vv_iload_n (i := 1) 27 hk dX1_tell_26 rfl rfl rfl ?_
  refine vv_iload 29 hk dX1_tell_27 rfl rfl ?_
  refine vv_iast 30 hk he dX1_tell_29 rfl la_76 sd_76 (fun σ4 => ?_)
  exact hret _ _ _ dX1_tell_30
theorem c_X0_dropFirst (G : GT) (σ : Hp) : CtV G true yX0_dropFirst cX0_dropFirst 1 none 0 [(rf G 25)] (f_X0_dropFirst σ) σ := by
  refine ctV (L0 := [some (rf G 25)]) (by decide +kernel) rfl rfl rfl (fun κ hk he hret => ?_)
  have hk : KO G κ cX0_dropFirst RX0 0 := hk
  refine vv_aload_n (i := 0) 1 hk dX0_dropFirst_0 rfl rfl rfl ?_
  refine vv_getR 4 hk dX0_dropFirst_1 rfl la_25 rfl ci_0 rfl fl_0_9 ?_
  refine vv_iconst 5 hk dX0_dropFirst_4 rfl ic_1 ?_
  refine vv_aload_n (i := 0) 6 hk dX0_dropFirst_5 rfl rfl rfl ?_
  refine vv_getR 9 hk dX0_dropFirst_6 rfl la_25 rfl ci_0 rfl fl_0_9 ?_
  refine vv_iconst 10 hk dX0_dropFirst_9 rfl ic_0 ?_
  refine vv_bipush 12 hk dX0_dropFirst_10 rfl bp_29 ?_
  refine vv_copy 15 hk he dX0_dropFirst_12 rfl ml_0_46 la_26 la_26 sd_26 sd_26 (Nat.le_of_ble_eq_true rfl) (fun σ1 => ?_)
  refine vv_aload_n (i := 0) 16 hk dX0_dropFirst_15 rfl rfl rfl ?_
  refine vv_getR 19 hk dX0_dropFirst_16 rfl la_25 rfl ci_0 rfl fl_0_13 ?_
  refine vv_iconst 20 hk dX0_dropFirst_19 rfl ic_1 ?_
  refine vv_aload_n (i := 0) 21 hk dX0_dropFirst_20 rfl rfl rfl ?_
  refine vv_getR 24 hk dX0_dropFirst_21 rfl la_25 rfl ci_0 rfl fl_0_13 ?_
  refine vv_iconst 25 hk dX0_dropFirst_24 rfl ic_0 ?_
  refine vv_bipush 27 hk dX0_dropFirst_25 rfl bp_29 ?_
  refine vv_copy 30 hk he dX0_dropFirst_27 rfl ml_0_46 la_27 la_27 sd_27 sd_27 (Nat.le_of_ble_eq_true rfl) (fun σ2 => ?_)
  refine vv_aload_n (i := 0) 31 hk dX0_dropFirst_30 rfl rfl rfl ?_
  refine vv_getR 34 hk dX0_dropFirst_31 rfl la_25 rfl ci_0 rfl fl_0_16 ?_
  refine vv_iconst 35 hk dX0_dropFirst_34 rfl ic_1 ?_
  refine vv_aload_n (i := 0) 36 hk dX0_dropFirst_35 rfl rfl rfl ?_
  refine vv_getR 39 hk dX0_dropFirst_36 rfl la_25 rfl ci_0 rfl fl_0_16 ?_
  refine vv_iconst 40 hk dX0_dropFirst_39 rfl ic_0 ?_
  refine vv_bipush 42 hk dX0_dropFirst_40 rfl bp_29 ?_
  refine vv_copy 45 hk he dX0_dropFirst_42 rfl ml_0_46 la_28 la_28 sd_28 sd_28 (Nat.le_of_ble_eq_true rfl) (fun σ3 => ?_)
  refine vv_aload_n (i := 0) 46 hk dX0_dropFirst_45 rfl rfl rfl ?_
  refine vv_bipush 48 hk dX0_dropFirst_46 rfl bp_29 ?_
  refine vv_putI 51 hk he dX0_dropFirst_48 rfl la_25 rfl ci_0 rfl fl_0_19 sd_25 rfl rfl (fun σ4 => ?_)
  exact hret _ _ _ dX0_dropFirst_51
theorem c_X0_perform (G : GT) (a1 : Int32) (a2 : Int32) (σ : Hp) : CtV G true yX0_perform cX0_perform 5 none 1 [(rf G 25), (.int a1), (.int a2), (rf G 1), (rf G 13)] (f_X0_perform a1 a2 σ) σ := by
  refine ctV (L0 := [some (rf G 25), some (.int a1), some (.int a2), some (rf G 1), some (rf G 13)]) (by decide +kernel) rfl rfl rfl (fun κ hk he hret => ?_)
  have hk : KO G κ cX0_perform RX0 1 := hk
  refine vv_aload_n (i := 0) 1 hk dX0_perform_0 rfl rfl rfl ?_
  refine vv_getI 4 hk he dX0_perform_1 rfl la_25 rfl ci_0 rfl fl_0_19 sd_25 ?_
  refine vv_bipush 6 hk dX0_perform_4 rfl bp_30 ?_
  refine vv_jn (fun t1 => (t1, 13, [some (rf G 25), some (.int a1), some (.int a2), some (rf G 1), some (rf G 13)], [])) (fun t1 => ?_) (fun k13 hk13 => ?_)
  · skip
    refine vv_aload_n (i := 0) 14 hk dX0_perform_13 rfl rfl rfl ?_
    refine vv_getR 17 hk dX0_perform_14 rfl la_25 rfl ci_0 rfl fl_0_9 ?_
    refine vv_aload_n (i := 0) 18 hk dX0_perform_17 rfl rfl rfl ?_
    refine vv_getI 21 hk he dX0_perform_18 rfl la_25 rfl ci_0 rfl fl_0_19 sd_25 ?_
    refine vv_iload_n (i := 1) 22 hk dX0_perform_21 rfl rfl rfl ?_
    refine vv_iast 23 hk he dX0_perform_22 rfl la_26 sd_26 (fun σ2 => ?_)
    refine vv_aload_n (i := 0) 24 hk dX0_perform_23 rfl rfl rfl ?_
    refine vv_getR 27 hk dX0_perform_24 rfl la_25 rfl ci_0 rfl fl_0_13 ?_
    refine vv_aload_n (i := 0) 28 hk dX0_perform_27 rfl rfl rfl ?_
    refine vv_getI 31 hk he dX0_perform_28 rfl la_25 rfl ci_0 rfl fl_0_19 sd_25 ?_
    refine vv_iload_n (i := 2) 32 hk dX0_perform_31 rfl rfl rfl ?_
    refine vv_iast 33 hk he dX0_perform_32 rfl la_27 sd_27 (fun σ3 => ?_)
    refine vv_aload_n (i := 0) 34 hk dX0_perform_33 rfl rfl rfl ?_
    refine vv_getR 37 hk dX0_perform_34 rfl la_25 rfl ci_0 rfl fl_0_16 ?_
    refine vv_aload_n (i := 0) 38 hk dX0_perform_37 rfl rfl rfl ?_
    refine vv_getI 41 hk he dX0_perform_38 rfl la_25 rfl ci_0 rfl fl_0_19 sd_25 ?_
    refine vv_aload_n (i := 3) 42 hk dX0_perform_41 rfl rfl rfl ?_
    refine vv_getI 45 hk he dX0_perform_42 rfl la_1 rfl ci_5 rfl fl_0_29 sd_1 ?_
    refine vv_iast 46 hk he dX0_perform_45 rfl la_28 sd_28 (fun σ4 => ?_)
    refine vv_aload_n (i := 0) 47 hk dX0_perform_46 rfl rfl rfl ?_
    refine vv_iconst 48 hk dX0_perform_47 rfl ic_1 ?_
    refine vv_putI 51 hk he dX0_perform_48 rfl la_25 rfl ci_0 rfl fl_0_23 sd_25 rfl rfl (fun σ5 => ?_)
    refine vv_aload_n (i := 0) 52 hk dX0_perform_51 rfl rfl rfl ?_
    refine vv_aload_n (i := 3) 53 hk dX0_perform_52 rfl rfl rfl ?_
    refine vv_aload 55 hk dX0_perform_53 rfl rfl ?_
    refine vv_invI (st := []) 58 hk he dX0_perform_55 rfl ml_0_34 cf_X0_repeat la_25 ci_0 (c_X0_repeat G σ5) rfl rfl rfl rfl (fun v6 σ7 => ?_)
    refine vv_pop 59 hk dX0_perform_58 rfl rfl ?_
    refine vv_aload_n (i := 0) 60 hk dX0_perform_59 rfl rfl rfl ?_
    refine vv_iconst 61 hk dX0_perform_60 rfl ic_0 ?_
    refine vv_putI 64 hk he dX0_perform_61 rfl la_25 rfl ci_0 rfl fl_0_23 sd_25 rfl rfl (fun σ8 => ?_)
    exact hret _ _ _ dX0_perform_64
  · skip
    refine vv_icmp_ne 13 9 hk dX0_perform_6 rfl rfl ?_ ?_
    · skip
      refine vv_aload_n (i := 0) 10 hk dX0_perform_9 rfl rfl rfl ?_
      refine vv_invV (st := []) 13 hk he dX0_perform_10 rfl ml_0_26 cf_X0_dropFirst la_25 ci_0 (c_X0_dropFirst G σ) rfl rfl rfl rfl (fun σ9 => ?_)
      exact vv_le (ll_s rfl (ll_s rfl (ll_s rfl (ll_s rfl (ll_s rfl ll_0))))) (hk13 σ9)
    · skip
      exact vv_le (ll_s rfl (ll_s rfl (ll_s rfl (ll_s rfl (ll_s rfl ll_0))))) (hk13 σ)
theorem c_X4_held_13 (G : GT) (a1 : Int32) (σ : Hp) : CtI G true yX4_held cX4_held 2 (some .int) 0 [(rf G 13), (.int a1)] (rdI (f_X4_held 13 a1 σ) σ) σ := by
  refine ctIr (L0 := [some (rf G 13), some (.int a1)]) (by decide +kernel) rfl rfl rfl (fun κ hk he hret => ?_)
  have hk : KO G κ cX4_held RX4 0 := hk
  refine vv_aload_n (i := 0) 1 hk dX4_held_0 rfl rfl rfl ?_
  refine vv_getR 4 hk dX4_held_1 rfl la_13 rfl ci_4 rfl fl_4_18 ?_
  refine vv_iload_n (i := 1) 5 hk dX4_held_4 rfl rfl rfl ?_
  refine vv_iconst 6 hk dX4_held_5 rfl ic_3 ?_
  refine vv_imul 7 hk dX4_held_6 rfl ?_
  refine vv_iald 8 hk he dX4_held_7 rfl la_16 sd_16 (fun v1 => ?_)
  refine vv_aload_n (i := 0) 9 hk dX4_held_8 rfl rfl rfl ?_
  refine vv_getR 12 hk dX4_held_9 rfl la_13 rfl ci_4 rfl fl_4_18 ?_
  refine vv_iload_n (i := 1) 13 hk dX4_held_12 rfl rfl rfl ?_
  refine vv_iconst 14 hk dX4_held_13 rfl ic_3 ?_
  refine vv_imul 15 hk dX4_held_14 rfl ?_
  refine vv_iconst 16 hk dX4_held_15 rfl ic_1 ?_
  refine vv_iadd 17 hk dX4_held_16 rfl ?_
  refine vv_iald 18 hk he dX4_held_17 rfl la_16 sd_16 (fun v2 => ?_)
  refine vv_iadd 19 hk dX4_held_18 rfl ?_
  refine vv_aload_n (i := 0) 20 hk dX4_held_19 rfl rfl rfl ?_
  refine vv_getR 23 hk dX4_held_20 rfl la_13 rfl ci_4 rfl fl_4_18 ?_
  refine vv_iload_n (i := 1) 24 hk dX4_held_23 rfl rfl rfl ?_
  refine vv_iconst 25 hk dX4_held_24 rfl ic_3 ?_
  refine vv_imul 26 hk dX4_held_25 rfl ?_
  refine vv_iconst 27 hk dX4_held_26 rfl ic_2 ?_
  refine vv_iadd 28 hk dX4_held_27 rfl ?_
  refine vv_iald 29 hk he dX4_held_28 rfl la_16 sd_16 (fun v3 => ?_)
  refine vv_iadd 30 hk dX4_held_29 rfl ?_
  exact hret _ _ _ dX4_held_30
theorem c_X4_held_19 (G : GT) (a1 : Int32) (σ : Hp) : CtI G true yX4_held cX4_held 2 (some .int) 0 [(rf G 19), (.int a1)] (rdI (f_X4_held 19 a1 σ) σ) σ := by
  refine ctIr (L0 := [some (rf G 19), some (.int a1)]) (by decide +kernel) rfl rfl rfl (fun κ hk he hret => ?_)
  have hk : KO G κ cX4_held RX4 0 := hk
  refine vv_aload_n (i := 0) 1 hk dX4_held_0 rfl rfl rfl ?_
  refine vv_getR 4 hk dX4_held_1 rfl la_19 rfl ci_4 rfl fl_4_18 ?_
  refine vv_iload_n (i := 1) 5 hk dX4_held_4 rfl rfl rfl ?_
  refine vv_iconst 6 hk dX4_held_5 rfl ic_3 ?_
  refine vv_imul 7 hk dX4_held_6 rfl ?_
  refine vv_iald 8 hk he dX4_held_7 rfl la_22 sd_22 (fun v1 => ?_)
  refine vv_aload_n (i := 0) 9 hk dX4_held_8 rfl rfl rfl ?_
  refine vv_getR 12 hk dX4_held_9 rfl la_19 rfl ci_4 rfl fl_4_18 ?_
  refine vv_iload_n (i := 1) 13 hk dX4_held_12 rfl rfl rfl ?_
  refine vv_iconst 14 hk dX4_held_13 rfl ic_3 ?_
  refine vv_imul 15 hk dX4_held_14 rfl ?_
  refine vv_iconst 16 hk dX4_held_15 rfl ic_1 ?_
  refine vv_iadd 17 hk dX4_held_16 rfl ?_
  refine vv_iald 18 hk he dX4_held_17 rfl la_22 sd_22 (fun v2 => ?_)
  refine vv_iadd 19 hk dX4_held_18 rfl ?_
  refine vv_aload_n (i := 0) 20 hk dX4_held_19 rfl rfl rfl ?_
  refine vv_getR 23 hk dX4_held_20 rfl la_19 rfl ci_4 rfl fl_4_18 ?_
  refine vv_iload_n (i := 1) 24 hk dX4_held_23 rfl rfl rfl ?_
  refine vv_iconst 25 hk dX4_held_24 rfl ic_3 ?_
  refine vv_imul 26 hk dX4_held_25 rfl ?_
  refine vv_iconst 27 hk dX4_held_26 rfl ic_2 ?_
  refine vv_iadd 28 hk dX4_held_27 rfl ?_
  refine vv_iald 29 hk he dX4_held_28 rfl la_22 sd_22 (fun v3 => ?_)
  refine vv_iadd 30 hk dX4_held_29 rfl ?_
  exact hret _ _ _ dX4_held_30
theorem c_X4_draw_13 (G : GT) (a1 : Int32) (σ : Hp) : CtV G true yX4_draw cX4_draw 10 none 1 [(rf G 13), (rf G 1), (.int a1)] (f_X4_draw 13 a1 σ) σ := by
  refine ctV (L0 := [some (rf G 13), some (rf G 1), some (.int a1), none, none, none, none, none, none, none]) (by decide +kernel) rfl rfl rfl (fun κ hk he hret => ?_)
  have hk : KO G κ cX4_draw RX4 1 := hk
  refine vv_aload_n (i := 1) 1 hk dX4_draw_0 rfl rfl rfl ?_
  refine vv_getR 4 hk dX4_draw_1 rfl la_1 rfl ci_5 rfl fl_4_114 ?_
  refine vv_iload_n (i := 2) 5 hk dX4_draw_4 rfl rfl rfl ?_
  refine vv_iald 6 hk he dX4_draw_5 rfl la_10 sd_10 (fun v1 => ?_)
  refine vv_istore_n (i := 3) 7 [some (rf G 13), some (rf G 1), some (.int a1), some (.int v1), none, none, none, none, none, none] hk dX4_draw_6 rfl rfl rfl rfl ?_
  refine vv_ldc2 10 hk dX4_draw_7 rfl cw_4_42 ?_
  refine vv_aload_n (i := 1) 11 hk dX4_draw_10 rfl rfl rfl ?_
  refine vv_iload_n (i := 3) 12 hk dX4_draw_11 rfl rfl rfl ?_
  refine vv_invJr (st := [(.long (100 : Int64))]) 15 hk he dX4_draw_12 rfl ml_4_44 cf_X5_divisor la_1 ci_5 (c_X5_divisor G v1 σ) rfl rfl rfl rfl (fun v2 => ?_)
  refine vv_lmul 16 hk dX4_draw_15 rfl ?_
  refine vv_lstoreL 18 (fun x3 => [some (rf G 13), some (rf G 1), some (.int a1), some (.int v1), some (.long x3), none, none, none, none, none]) hk dX4_draw_16 rfl rfl (fun _ => rfl) (fun x3 => ?_)
  refine vv_iconst 19 hk dX4_draw_18 rfl ic_0 ?_
  refine vv_istore 21 [some (rf G 13), some (rf G 1), some (.int a1), some (.int v1), some (.long x3), none, some (.int (0 : Int32)), none, none, none] hk dX4_draw_19 rfl rfl rfl ?_
  refine vv_lp (fun t4 => (t4.2, 21, [some (rf G 13), some (rf G 1), some (.int a1), some (.int v1), some (.long x3), none, some (.int t4.1), none, none, none], [])) (fun kl21 hkl21 t4 => ?_) FU ((0 : Int32), σ)
  refine vv_iload 23 hk dX4_draw_21 rfl rfl ?_
  refine vv_iconst 24 hk dX4_draw_23 rfl ic_3 ?_
  refine vv_icmp_ge 126 27 hk dX4_draw_24 rfl rfl ?_ ?_
  · skip
    exact hret _ _ _ dX4_draw_126
  · skip
    refine vv_iload_n (i := 3) 28 hk dX4_draw_27 rfl rfl rfl ?_
    refine vv_iconst 29 hk dX4_draw_28 rfl ic_3 ?_
    refine vv_imul 30 hk dX4_draw_29 rfl ?_
    refine vv_iload 32 hk dX4_draw_30 rfl rfl ?_
    refine vv_iadd 33 hk dX4_draw_32 rfl ?_
    refine vv_istoreL 35 (fun x5 => [some (rf G 13), some (rf G 1), some (.int a1), some (.int v1), some (.long x3), none, some (.int t4.1), some (.int x5), none, none]) hk dX4_draw_33 rfl rfl (fun _ => rfl) (fun x5 => ?_)
    refine vv_aload_n (i := 0) 36 hk dX4_draw_35 rfl rfl rfl ?_
    refine vv_getR 39 hk dX4_draw_36 rfl la_13 rfl ci_4 rfl fl_4_9 ?_
    refine vv_iload 41 hk dX4_draw_39 rfl rfl ?_
    refine vv_iald 42 hk he dX4_draw_41 rfl la_14 sd_14 (fun v6 => ?_)
    refine vv_i2l 43 hk dX4_draw_42 rfl ?_
    refine vv_aload_n (i := 1) 44 hk dX4_draw_43 rfl rfl rfl ?_
    refine vv_getR 47 hk dX4_draw_44 rfl la_1 rfl ci_5 rfl fl_4_117 ?_
    refine vv_iload_n (i := 2) 48 hk dX4_draw_47 rfl rfl rfl ?_
    refine vv_iconst 49 hk dX4_draw_48 rfl ic_3 ?_
    refine vv_imul 50 hk dX4_draw_49 rfl ?_
    refine vv_iload 52 hk dX4_draw_50 rfl rfl ?_
    refine vv_iadd 53 hk dX4_draw_52 rfl ?_
    refine vv_iald 54 hk he dX4_draw_53 rfl la_11 sd_11 (fun v7 => ?_)
    refine vv_i2l 55 hk dX4_draw_54 rfl ?_
    refine vv_lmul 56 hk dX4_draw_55 rfl ?_
    refine vv_lload 58 hk dX4_draw_56 rfl rfl ?_
    refine vv_ldiv 59 hk dX4_draw_58 rfl ?_
    refine vv_lstoreL 61 (fun x8 => [some (rf G 13), some (rf G 1), some (.int a1), some (.int v1), some (.long x3), none, some (.int t4.1), some (.int x5), some (.long x8), none]) hk dX4_draw_59 rfl rfl (fun _ => rfl) (fun x8 => ?_)
    refine vv_aload_n (i := 1) 62 hk dX4_draw_61 rfl rfl rfl ?_
    refine vv_getR 65 hk dX4_draw_62 rfl la_1 rfl ci_5 rfl fl_4_66 ?_
    refine vv_iload_n (i := 2) 66 hk dX4_draw_65 rfl rfl rfl ?_
    refine vv_iald 67 hk he dX4_draw_66 rfl la_12 sd_12 (fun v9 => ?_)
    refine vv_jn (fun t10 => (t4.2, 90, [some (rf G 13), some (rf G 1), some (.int a1), some (.int v1), some (.long x3), none, some (.int t4.1), some (.int x5), some (.long t10), none], [])) (fun t10 => ?_) (fun k90 hk90 => ?_)
    · skip
      refine vv_aload_n (i := 0) 91 hk dX4_draw_90 rfl rfl rfl ?_
      refine vv_getR 94 hk dX4_draw_91 rfl la_13 rfl ci_4 rfl fl_4_9 ?_
      refine vv_iload 96 hk dX4_draw_94 rfl rfl ?_
      refine vv_dup2 97 hk dX4_draw_96 rfl rfl rfl ?_
      refine vv_iald 98 hk he dX4_draw_97 rfl la_14 sd_14 (fun v11 => ?_)
      refine vv_lload 100 hk dX4_draw_98 rfl rfl ?_
      refine vv_l2i 101 hk dX4_draw_100 rfl ?_
      refine vv_isub 102 hk dX4_draw_101 rfl ?_
      refine vv_iast 103 hk he dX4_draw_102 rfl la_14 sd_14 (fun σ12 => ?_)
      refine vv_aload_n (i := 0) 104 hk dX4_draw_103 rfl rfl rfl ?_
      refine vv_getR 107 hk dX4_draw_104 rfl la_13 rfl ci_4 rfl fl_4_18 ?_
      refine vv_iload_n (i := 2) 108 hk dX4_draw_107 rfl rfl rfl ?_
      refine vv_iconst 109 hk dX4_draw_108 rfl ic_3 ?_
      refine vv_imul 110 hk dX4_draw_109 rfl ?_
      refine vv_iload 112 hk dX4_draw_110 rfl rfl ?_
      refine vv_iadd 113 hk dX4_draw_112 rfl ?_
      refine vv_dup2 114 hk dX4_draw_113 rfl rfl rfl ?_
      refine vv_iald 115 hk he dX4_draw_114 rfl la_16 sd_16 (fun v13 => ?_)
      refine vv_lload 117 hk dX4_draw_115 rfl rfl ?_
      refine vv_l2i 118 hk dX4_draw_117 rfl ?_
      refine vv_iadd 119 hk dX4_draw_118 rfl ?_
      refine vv_iast 120 hk he dX4_draw_119 rfl la_16 sd_16 (fun σ14 => ?_)
      refine vv_iinc 123 (fun x15 => [some (rf G 13), some (rf G 1), some (.int a1), some (.int v1), some (.long x3), none, some (.int x15), some (.int x5), some (.long t10), none]) hk dX4_draw_120 rfl rfl ic_1 (fun _ => rfl) (fun x15 => ?_)
      refine vv_goto 21 hk dX4_draw_123 rfl ?_
      exact vv_le (ll_s rfl (ll_s rfl (ll_s rfl (ll_s rfl (ll_s rfl (ll_n (ll_s rfl (ll_n (ll_n (ll_n ll_0)))))))))) (hkl21 (x15, σ14))
    · skip
      refine vv_if_le 90 70 hk dX4_draw_67 rfl rfl ?_ ?_
      · skip
        exact vv_le (ll_s rfl (ll_s rfl (ll_s rfl (ll_s rfl (ll_s rfl (ll_n (ll_s rfl (ll_s rfl (ll_s rfl (ll_n ll_0)))))))))) (hk90 x8)
      · skip
        refine vv_lload 72 hk dX4_draw_70 rfl rfl ?_
        refine vv_aload_n (i := 1) 73 hk dX4_draw_72 rfl rfl rfl ?_
        refine vv_getR 76 hk dX4_draw_73 rfl la_1 rfl ci_5 rfl fl_4_66 ?_
        refine vv_iload_n (i := 2) 77 hk dX4_draw_76 rfl rfl rfl ?_
        refine vv_iald 78 hk he dX4_draw_77 rfl la_12 sd_12 (fun v16 => ?_)
        refine vv_aload_n (i := 0) 79 hk dX4_draw_78 rfl rfl rfl ?_
        refine vv_iload_n (i := 2) 80 hk dX4_draw_79 rfl rfl rfl ?_
        refine vv_invIr (st := [(.int v16), (.long x8)]) 83 hk he dX4_draw_80 rfl ml_4_120 cf_X4_held la_13 ci_4 (c_X4_held_13 G a1 t4.2) rfl rfl rfl rfl (fun v17 => ?_)
        refine vv_isub 84 hk dX4_draw_83 rfl ?_
        refine vv_i2l 85 hk dX4_draw_84 rfl ?_
        refine vv_mminL 88 hk dX4_draw_85 rfl ml_4_50 rfl ?_
        refine vv_lstoreL 90 (fun x18 => [some (rf G 13), some (rf G 1), some (.int a1), some (.int v1), some (.long x3), none, some (.int t4.1), some (.int x5), some (.long x18), none]) hk dX4_draw_88 rfl rfl (fun _ => rfl) (fun x18 => ?_)
        exact vv_le (ll_s rfl (ll_s rfl (ll_s rfl (ll_s rfl (ll_s rfl (ll_n (ll_s rfl (ll_s rfl (ll_s rfl (ll_n ll_0)))))))))) (hk90 x18)
theorem c_X4_draw_19 (G : GT) (a1 : Int32) (σ : Hp) : CtV G true yX4_draw cX4_draw 10 none 1 [(rf G 19), (rf G 1), (.int a1)] (f_X4_draw 19 a1 σ) σ := by
  refine ctV (L0 := [some (rf G 19), some (rf G 1), some (.int a1), none, none, none, none, none, none, none]) (by decide +kernel) rfl rfl rfl (fun κ hk he hret => ?_)
  have hk : KO G κ cX4_draw RX4 1 := hk
  refine vv_aload_n (i := 1) 1 hk dX4_draw_0 rfl rfl rfl ?_
  refine vv_getR 4 hk dX4_draw_1 rfl la_1 rfl ci_5 rfl fl_4_114 ?_
  refine vv_iload_n (i := 2) 5 hk dX4_draw_4 rfl rfl rfl ?_
  refine vv_iald 6 hk he dX4_draw_5 rfl la_10 sd_10 (fun v1 => ?_)
  refine vv_istore_n (i := 3) 7 [some (rf G 19), some (rf G 1), some (.int a1), some (.int v1), none, none, none, none, none, none] hk dX4_draw_6 rfl rfl rfl rfl ?_
  refine vv_ldc2 10 hk dX4_draw_7 rfl cw_4_42 ?_
  refine vv_aload_n (i := 1) 11 hk dX4_draw_10 rfl rfl rfl ?_
  refine vv_iload_n (i := 3) 12 hk dX4_draw_11 rfl rfl rfl ?_
  refine vv_invJr (st := [(.long (100 : Int64))]) 15 hk he dX4_draw_12 rfl ml_4_44 cf_X5_divisor la_1 ci_5 (c_X5_divisor G v1 σ) rfl rfl rfl rfl (fun v2 => ?_)
  refine vv_lmul 16 hk dX4_draw_15 rfl ?_
  refine vv_lstoreL 18 (fun x3 => [some (rf G 19), some (rf G 1), some (.int a1), some (.int v1), some (.long x3), none, none, none, none, none]) hk dX4_draw_16 rfl rfl (fun _ => rfl) (fun x3 => ?_)
  refine vv_iconst 19 hk dX4_draw_18 rfl ic_0 ?_
  refine vv_istore 21 [some (rf G 19), some (rf G 1), some (.int a1), some (.int v1), some (.long x3), none, some (.int (0 : Int32)), none, none, none] hk dX4_draw_19 rfl rfl rfl ?_
  refine vv_lp (fun t4 => (t4.2, 21, [some (rf G 19), some (rf G 1), some (.int a1), some (.int v1), some (.long x3), none, some (.int t4.1), none, none, none], [])) (fun kl21 hkl21 t4 => ?_) FU ((0 : Int32), σ)
  refine vv_iload 23 hk dX4_draw_21 rfl rfl ?_
  refine vv_iconst 24 hk dX4_draw_23 rfl ic_3 ?_
  refine vv_icmp_ge 126 27 hk dX4_draw_24 rfl rfl ?_ ?_
  · skip
    exact hret _ _ _ dX4_draw_126
  · skip
    refine vv_iload_n (i := 3) 28 hk dX4_draw_27 rfl rfl rfl ?_
    refine vv_iconst 29 hk dX4_draw_28 rfl ic_3 ?_
    refine vv_imul 30 hk dX4_draw_29 rfl ?_
    refine vv_iload 32 hk dX4_draw_30 rfl rfl ?_
    refine vv_iadd 33 hk dX4_draw_32 rfl ?_
    refine vv_istoreL 35 (fun x5 => [some (rf G 19), some (rf G 1), some (.int a1), some (.int v1), some (.long x3), none, some (.int t4.1), some (.int x5), none, none]) hk dX4_draw_33 rfl rfl (fun _ => rfl) (fun x5 => ?_)
    refine vv_aload_n (i := 0) 36 hk dX4_draw_35 rfl rfl rfl ?_
    refine vv_getR 39 hk dX4_draw_36 rfl la_19 rfl ci_4 rfl fl_4_9 ?_
    refine vv_iload 41 hk dX4_draw_39 rfl rfl ?_
    refine vv_iald 42 hk he dX4_draw_41 rfl la_20 sd_20 (fun v6 => ?_)
    refine vv_i2l 43 hk dX4_draw_42 rfl ?_
    refine vv_aload_n (i := 1) 44 hk dX4_draw_43 rfl rfl rfl ?_
    refine vv_getR 47 hk dX4_draw_44 rfl la_1 rfl ci_5 rfl fl_4_117 ?_
    refine vv_iload_n (i := 2) 48 hk dX4_draw_47 rfl rfl rfl ?_
    refine vv_iconst 49 hk dX4_draw_48 rfl ic_3 ?_
    refine vv_imul 50 hk dX4_draw_49 rfl ?_
    refine vv_iload 52 hk dX4_draw_50 rfl rfl ?_
    refine vv_iadd 53 hk dX4_draw_52 rfl ?_
    refine vv_iald 54 hk he dX4_draw_53 rfl la_11 sd_11 (fun v7 => ?_)
    refine vv_i2l 55 hk dX4_draw_54 rfl ?_
    refine vv_lmul 56 hk dX4_draw_55 rfl ?_
    refine vv_lload 58 hk dX4_draw_56 rfl rfl ?_
    refine vv_ldiv 59 hk dX4_draw_58 rfl ?_
    refine vv_lstoreL 61 (fun x8 => [some (rf G 19), some (rf G 1), some (.int a1), some (.int v1), some (.long x3), none, some (.int t4.1), some (.int x5), some (.long x8), none]) hk dX4_draw_59 rfl rfl (fun _ => rfl) (fun x8 => ?_)
    refine vv_aload_n (i := 1) 62 hk dX4_draw_61 rfl rfl rfl ?_
    refine vv_getR 65 hk dX4_draw_62 rfl la_1 rfl ci_5 rfl fl_4_66 ?_
    refine vv_iload_n (i := 2) 66 hk dX4_draw_65 rfl rfl rfl ?_
    refine vv_iald 67 hk he dX4_draw_66 rfl la_12 sd_12 (fun v9 => ?_)
    refine vv_jn (fun t10 => (t4.2, 90, [some (rf G 19), some (rf G 1), some (.int a1), some (.int v1), some (.long x3), none, some (.int t4.1), some (.int x5), some (.long t10), none], [])) (fun t10 => ?_) (fun k90 hk90 => ?_)
    · skip
      refine vv_aload_n (i := 0) 91 hk dX4_draw_90 rfl rfl rfl ?_
      refine vv_getR 94 hk dX4_draw_91 rfl la_19 rfl ci_4 rfl fl_4_9 ?_
      refine vv_iload 96 hk dX4_draw_94 rfl rfl ?_
      refine vv_dup2 97 hk dX4_draw_96 rfl rfl rfl ?_
      refine vv_iald 98 hk he dX4_draw_97 rfl la_20 sd_20 (fun v11 => ?_)
      refine vv_lload 100 hk dX4_draw_98 rfl rfl ?_
      refine vv_l2i 101 hk dX4_draw_100 rfl ?_
      refine vv_isub 102 hk dX4_draw_101 rfl ?_
      refine vv_iast 103 hk he dX4_draw_102 rfl la_20 sd_20 (fun σ12 => ?_)
      refine vv_aload_n (i := 0) 104 hk dX4_draw_103 rfl rfl rfl ?_
      refine vv_getR 107 hk dX4_draw_104 rfl la_19 rfl ci_4 rfl fl_4_18 ?_
      refine vv_iload_n (i := 2) 108 hk dX4_draw_107 rfl rfl rfl ?_
      refine vv_iconst 109 hk dX4_draw_108 rfl ic_3 ?_
      refine vv_imul 110 hk dX4_draw_109 rfl ?_
      refine vv_iload 112 hk dX4_draw_110 rfl rfl ?_
      refine vv_iadd 113 hk dX4_draw_112 rfl ?_
      refine vv_dup2 114 hk dX4_draw_113 rfl rfl rfl ?_
      refine vv_iald 115 hk he dX4_draw_114 rfl la_22 sd_22 (fun v13 => ?_)
      refine vv_lload 117 hk dX4_draw_115 rfl rfl ?_
      refine vv_l2i 118 hk dX4_draw_117 rfl ?_
      refine vv_iadd 119 hk dX4_draw_118 rfl ?_
      refine vv_iast 120 hk he dX4_draw_119 rfl la_22 sd_22 (fun σ14 => ?_)
      refine vv_iinc 123 (fun x15 => [some (rf G 19), some (rf G 1), some (.int a1), some (.int v1), some (.long x3), none, some (.int x15), some (.int x5), some (.long t10), none]) hk dX4_draw_120 rfl rfl ic_1 (fun _ => rfl) (fun x15 => ?_)
      refine vv_goto 21 hk dX4_draw_123 rfl ?_
      exact vv_le (ll_s rfl (ll_s rfl (ll_s rfl (ll_s rfl (ll_s rfl (ll_n (ll_s rfl (ll_n (ll_n (ll_n ll_0)))))))))) (hkl21 (x15, σ14))
    · skip
      refine vv_if_le 90 70 hk dX4_draw_67 rfl rfl ?_ ?_
      · skip
        exact vv_le (ll_s rfl (ll_s rfl (ll_s rfl (ll_s rfl (ll_s rfl (ll_n (ll_s rfl (ll_s rfl (ll_s rfl (ll_n ll_0)))))))))) (hk90 x8)
      · skip
        refine vv_lload 72 hk dX4_draw_70 rfl rfl ?_
        refine vv_aload_n (i := 1) 73 hk dX4_draw_72 rfl rfl rfl ?_
        refine vv_getR 76 hk dX4_draw_73 rfl la_1 rfl ci_5 rfl fl_4_66 ?_
        refine vv_iload_n (i := 2) 77 hk dX4_draw_76 rfl rfl rfl ?_
        refine vv_iald 78 hk he dX4_draw_77 rfl la_12 sd_12 (fun v16 => ?_)
        refine vv_aload_n (i := 0) 79 hk dX4_draw_78 rfl rfl rfl ?_
        refine vv_iload_n (i := 2) 80 hk dX4_draw_79 rfl rfl rfl ?_
        refine vv_invIr (st := [(.int v16), (.long x8)]) 83 hk he dX4_draw_80 rfl ml_4_120 cf_X4_held la_19 ci_4 (c_X4_held_19 G a1 t4.2) rfl rfl rfl rfl (fun v17 => ?_)
        refine vv_isub 84 hk dX4_draw_83 rfl ?_
        refine vv_i2l 85 hk dX4_draw_84 rfl ?_
        refine vv_mminL 88 hk dX4_draw_85 rfl ml_4_50 rfl ?_
        refine vv_lstoreL 90 (fun x18 => [some (rf G 19), some (rf G 1), some (.int a1), some (.int v1), some (.long x3), none, some (.int t4.1), some (.int x5), some (.long x18), none]) hk dX4_draw_88 rfl rfl (fun _ => rfl) (fun x18 => ?_)
        exact vv_le (ll_s rfl (ll_s rfl (ll_s rfl (ll_s rfl (ll_s rfl (ll_n (ll_s rfl (ll_s rfl (ll_s rfl (ll_n ll_0)))))))))) (hk90 x18)
theorem c_X4_flow_13 (G : GT) (a1 : Int32) (a2 : Int32) (a3 : Int32) (σ : Hp) : CtV G true yX4_flow cX4_flow 12 none 1 [(rf G 13), (rf G 1), (.int a1), (.int a2), (.int a3)] (f_X4_flow 13 a1 a2 a3 σ) σ := by
  refine ctV (L0 := [some (rf G 13), some (rf G 1), some (.int a1), some (.int a2), some (.int a3), none, none, none, none, none, none, none]) (by decide +kernel) rfl rfl rfl (fun κ hk he hret => ?_)
  have hk : KO G κ cX4_flow RX4 1 := hk
  refine vv_ldc2 3 hk dX4_flow_0 rfl cw_4_42 ?_
  refine vv_aload_n (i := 1) 4 hk dX4_flow_3 rfl rfl rfl ?_
  refine vv_iload_n (i := 2) 5 hk dX4_flow_4 rfl rfl rfl ?_
  refine vv_invJr (st := [(.long (100 : Int64))]) 8 hk he dX4_flow_5 rfl ml_4_44 cf_X5_divisor la_1 ci_5 (c_X5_divisor G a1 σ) rfl rfl rfl rfl (fun v1 => ?_)
  refine vv_lmul 9 hk dX4_flow_8 rfl ?_
  refine vv_lstoreL 11 (fun x2 => [some (rf G 13), some (rf G 1), some (.int a1), some (.int a2), some (.int a3), some (.long x2), none, none, none, none, none, none]) hk dX4_flow_9 rfl rfl (fun _ => rfl) (fun x2 => ?_)
  refine vv_iconst 12 hk dX4_flow_11 rfl ic_0 ?_
  refine vv_istore 14 [some (rf G 13), some (rf G 1), some (.int a1), some (.int a2), some (.int a3), some (.long x2), none, some (.int (0 : Int32)), none, none, none, none] hk dX4_flow_12 rfl rfl rfl ?_
  refine vv_lp (fun t3 => (t3.2, 14, [some (rf G 13), some (rf G 1), some (.int a1), some (.int a2), some (.int a3), some (.long x2), none, some (.int t3.1), none, none, none, none], [])) (fun kl14 hkl14 t3 => ?_) FU ((0 : Int32), σ)
  refine vv_iload 16 hk dX4_flow_14 rfl rfl ?_
  refine vv_iconst 17 hk dX4_flow_16 rfl ic_3 ?_
  refine vv_icmp_ge 95 20 hk dX4_flow_17 rfl rfl ?_ ?_
  · skip
    exact hret _ _ _ dX4_flow_95
  · skip
    refine vv_iload_n (i := 2) 21 hk dX4_flow_20 rfl rfl rfl ?_
    refine vv_iconst 22 hk dX4_flow_21 rfl ic_3 ?_
    refine vv_imul 23 hk dX4_flow_22 rfl ?_
    refine vv_iload 25 hk dX4_flow_23 rfl rfl ?_
    refine vv_iadd 26 hk dX4_flow_25 rfl ?_
    refine vv_istoreL 28 (fun x4 => [some (rf G 13), some (rf G 1), some (.int a1), some (.int a2), some (.int a3), some (.long x2), none, some (.int t3.1), some (.int x4), none, none, none]) hk dX4_flow_26 rfl rfl (fun _ => rfl) (fun x4 => ?_)
    refine vv_aload_n (i := 0) 29 hk dX4_flow_28 rfl rfl rfl ?_
    refine vv_getR 32 hk dX4_flow_29 rfl la_13 rfl ci_4 rfl fl_4_24 ?_
    refine vv_iload 34 hk dX4_flow_32 rfl rfl ?_
    refine vv_iald 35 hk he dX4_flow_34 rfl la_18 sd_18 (fun v5 => ?_)
    refine vv_i2l 36 hk dX4_flow_35 rfl ?_
    refine vv_iload 38 hk dX4_flow_36 rfl rfl ?_
    refine vv_i2l 39 hk dX4_flow_38 rfl ?_
    refine vv_lmul 40 hk dX4_flow_39 rfl ?_
    refine vv_lload 42 hk dX4_flow_40 rfl rfl ?_
    refine vv_ldiv 43 hk dX4_flow_42 rfl ?_
    refine vv_lstoreL 45 (fun x6 => [some (rf G 13), some (rf G 1), some (.int a1), some (.int a2), some (.int a3), some (.long x2), none, some (.int t3.1), some (.int x4), some (.long x6), none, none]) hk dX4_flow_43 rfl rfl (fun _ => rfl) (fun x6 => ?_)
    refine vv_lload 47 hk dX4_flow_45 rfl rfl ?_
    refine vv_aload_n (i := 0) 48 hk dX4_flow_47 rfl rfl rfl ?_
    refine vv_getR 51 hk dX4_flow_48 rfl la_13 rfl ci_4 rfl fl_4_9 ?_
    refine vv_iload 53 hk dX4_flow_51 rfl rfl ?_
    refine vv_iald 54 hk he dX4_flow_53 rfl la_14 sd_14 (fun v7 => ?_)
    refine vv_i2l 55 hk dX4_flow_54 rfl ?_
    refine vv_mminL 58 hk dX4_flow_55 rfl ml_4_50 rfl ?_
    refine vv_l2i 59 hk dX4_flow_58 rfl ?_
    refine vv_istoreL 61 (fun x8 => [some (rf G 13), some (rf G 1), some (.int a1), some (.int a2), some (.int a3), some (.long x2), none, some (.int t3.1), some (.int x4), some (.long x6), none, some (.int x8)]) hk dX4_flow_59 rfl rfl (fun _ => rfl) (fun x8 => ?_)
    refine vv_aload_n (i := 0) 62 hk dX4_flow_61 rfl rfl rfl ?_
    refine vv_getR 65 hk dX4_flow_62 rfl la_13 rfl ci_4 rfl fl_4_9 ?_
    refine vv_iload 67 hk dX4_flow_65 rfl rfl ?_
    refine vv_dup2 68 hk dX4_flow_67 rfl rfl rfl ?_
    refine vv_iald 69 hk he dX4_flow_68 rfl la_14 sd_14 (fun v9 => ?_)
    refine vv_iload 71 hk dX4_flow_69 rfl rfl ?_
    refine vv_isub 72 hk dX4_flow_71 rfl ?_
    refine vv_iast 73 hk he dX4_flow_72 rfl la_14 sd_14 (fun σ10 => ?_)
    refine vv_aload_n (i := 0) 74 hk dX4_flow_73 rfl rfl rfl ?_
    refine vv_getR 77 hk dX4_flow_74 rfl la_13 rfl ci_4 rfl fl_4_9 ?_
    refine vv_iload_n (i := 3) 78 hk dX4_flow_77 rfl rfl rfl ?_
    refine vv_iconst 79 hk dX4_flow_78 rfl ic_3 ?_
    refine vv_imul 80 hk dX4_flow_79 rfl ?_
    refine vv_iload 82 hk dX4_flow_80 rfl rfl ?_
    refine vv_iadd 83 hk dX4_flow_82 rfl ?_
    refine vv_dup2 84 hk dX4_flow_83 rfl rfl rfl ?_
    refine vv_iald 85 hk he dX4_flow_84 rfl la_14 sd_14 (fun v11 => ?_)
    refine vv_iload 87 hk dX4_flow_85 rfl rfl ?_
    refine vv_iadd 88 hk dX4_flow_87 rfl ?_
    refine vv_iast 89 hk he dX4_flow_88 rfl la_14 sd_14 (fun σ12 => ?_)
    refine vv_iinc 92 (fun x13 => [some (rf G 13), some (rf G 1), some (.int a1), some (.int a2), some (.int a3), some (.long x2), none, some (.int x13), some (.int x4), some (.long x6), none, some (.int x8)]) hk dX4_flow_89 rfl rfl ic_1 (fun _ => rfl) (fun x13 => ?_)
    refine vv_goto 14 hk dX4_flow_92 rfl ?_
    exact vv_le (ll_s rfl (ll_s rfl (ll_s rfl (ll_s rfl (ll_s rfl (ll_s rfl (ll_n (ll_s rfl (ll_n (ll_n (ll_n (ll_n ll_0)))))))))))) (hkl14 (x13, σ12))
theorem c_X4_flow_19 (G : GT) (a1 : Int32) (a2 : Int32) (a3 : Int32) (σ : Hp) : CtV G true yX4_flow cX4_flow 12 none 1 [(rf G 19), (rf G 1), (.int a1), (.int a2), (.int a3)] (f_X4_flow 19 a1 a2 a3 σ) σ := by
  refine ctV (L0 := [some (rf G 19), some (rf G 1), some (.int a1), some (.int a2), some (.int a3), none, none, none, none, none, none, none]) (by decide +kernel) rfl rfl rfl (fun κ hk he hret => ?_)
  have hk : KO G κ cX4_flow RX4 1 := hk
  refine vv_ldc2 3 hk dX4_flow_0 rfl cw_4_42 ?_
  refine vv_aload_n (i := 1) 4 hk dX4_flow_3 rfl rfl rfl ?_
  refine vv_iload_n (i := 2) 5 hk dX4_flow_4 rfl rfl rfl ?_
  refine vv_invJr (st := [(.long (100 : Int64))]) 8 hk he dX4_flow_5 rfl ml_4_44 cf_X5_divisor la_1 ci_5 (c_X5_divisor G a1 σ) rfl rfl rfl rfl (fun v1 => ?_)
  refine vv_lmul 9 hk dX4_flow_8 rfl ?_
  refine vv_lstoreL 11 (fun x2 => [some (rf G 19), some (rf G 1), some (.int a1), some (.int a2), some (.int a3), some (.long x2), none, none, none, none, none, none]) hk dX4_flow_9 rfl rfl (fun _ => rfl) (fun x2 => ?_)
  refine vv_iconst 12 hk dX4_flow_11 rfl ic_0 ?_
  refine vv_istore 14 [some (rf G 19), some (rf G 1), some (.int a1), some (.int a2), some (.int a3), some (.long x2), none, some (.int (0 : Int32)), none, none, none, none] hk dX4_flow_12 rfl rfl rfl ?_
  refine vv_lp (fun t3 => (t3.2, 14, [some (rf G 19), some (rf G 1), some (.int a1), some (.int a2), some (.int a3), some (.long x2), none, some (.int t3.1), none, none, none, none], [])) (fun kl14 hkl14 t3 => ?_) FU ((0 : Int32), σ)
  refine vv_iload 16 hk dX4_flow_14 rfl rfl ?_
  refine vv_iconst 17 hk dX4_flow_16 rfl ic_3 ?_
  refine vv_icmp_ge 95 20 hk dX4_flow_17 rfl rfl ?_ ?_
  · skip
    exact hret _ _ _ dX4_flow_95
  · skip
    refine vv_iload_n (i := 2) 21 hk dX4_flow_20 rfl rfl rfl ?_
    refine vv_iconst 22 hk dX4_flow_21 rfl ic_3 ?_
    refine vv_imul 23 hk dX4_flow_22 rfl ?_
    refine vv_iload 25 hk dX4_flow_23 rfl rfl ?_
    refine vv_iadd 26 hk dX4_flow_25 rfl ?_
    refine vv_istoreL 28 (fun x4 => [some (rf G 19), some (rf G 1), some (.int a1), some (.int a2), some (.int a3), some (.long x2), none, some (.int t3.1), some (.int x4), none, none, none]) hk dX4_flow_26 rfl rfl (fun _ => rfl) (fun x4 => ?_)
    refine vv_aload_n (i := 0) 29 hk dX4_flow_28 rfl rfl rfl ?_
    refine vv_getR 32 hk dX4_flow_29 rfl la_19 rfl ci_4 rfl fl_4_24 ?_
    refine vv_iload 34 hk dX4_flow_32 rfl rfl ?_
    refine vv_iald 35 hk he dX4_flow_34 rfl la_24 sd_24 (fun v5 => ?_)
    refine vv_i2l 36 hk dX4_flow_35 rfl ?_
    refine vv_iload 38 hk dX4_flow_36 rfl rfl ?_
    refine vv_i2l 39 hk dX4_flow_38 rfl ?_
    refine vv_lmul 40 hk dX4_flow_39 rfl ?_
    refine vv_lload 42 hk dX4_flow_40 rfl rfl ?_
    refine vv_ldiv 43 hk dX4_flow_42 rfl ?_
    refine vv_lstoreL 45 (fun x6 => [some (rf G 19), some (rf G 1), some (.int a1), some (.int a2), some (.int a3), some (.long x2), none, some (.int t3.1), some (.int x4), some (.long x6), none, none]) hk dX4_flow_43 rfl rfl (fun _ => rfl) (fun x6 => ?_)
    refine vv_lload 47 hk dX4_flow_45 rfl rfl ?_
    refine vv_aload_n (i := 0) 48 hk dX4_flow_47 rfl rfl rfl ?_
    refine vv_getR 51 hk dX4_flow_48 rfl la_19 rfl ci_4 rfl fl_4_9 ?_
    refine vv_iload 53 hk dX4_flow_51 rfl rfl ?_
    refine vv_iald 54 hk he dX4_flow_53 rfl la_20 sd_20 (fun v7 => ?_)
    refine vv_i2l 55 hk dX4_flow_54 rfl ?_
    refine vv_mminL 58 hk dX4_flow_55 rfl ml_4_50 rfl ?_
    refine vv_l2i 59 hk dX4_flow_58 rfl ?_
    refine vv_istoreL 61 (fun x8 => [some (rf G 19), some (rf G 1), some (.int a1), some (.int a2), some (.int a3), some (.long x2), none, some (.int t3.1), some (.int x4), some (.long x6), none, some (.int x8)]) hk dX4_flow_59 rfl rfl (fun _ => rfl) (fun x8 => ?_)
    refine vv_aload_n (i := 0) 62 hk dX4_flow_61 rfl rfl rfl ?_
    refine vv_getR 65 hk dX4_flow_62 rfl la_19 rfl ci_4 rfl fl_4_9 ?_
    refine vv_iload 67 hk dX4_flow_65 rfl rfl ?_
    refine vv_dup2 68 hk dX4_flow_67 rfl rfl rfl ?_
    refine vv_iald 69 hk he dX4_flow_68 rfl la_20 sd_20 (fun v9 => ?_)
    refine vv_iload 71 hk dX4_flow_69 rfl rfl ?_
    refine vv_isub 72 hk dX4_flow_71 rfl ?_
    refine vv_iast 73 hk he dX4_flow_72 rfl la_20 sd_20 (fun σ10 => ?_)
    refine vv_aload_n (i := 0) 74 hk dX4_flow_73 rfl rfl rfl ?_
    refine vv_getR 77 hk dX4_flow_74 rfl la_19 rfl ci_4 rfl fl_4_9 ?_
    refine vv_iload_n (i := 3) 78 hk dX4_flow_77 rfl rfl rfl ?_
    refine vv_iconst 79 hk dX4_flow_78 rfl ic_3 ?_
    refine vv_imul 80 hk dX4_flow_79 rfl ?_
    refine vv_iload 82 hk dX4_flow_80 rfl rfl ?_
    refine vv_iadd 83 hk dX4_flow_82 rfl ?_
    refine vv_dup2 84 hk dX4_flow_83 rfl rfl rfl ?_
    refine vv_iald 85 hk he dX4_flow_84 rfl la_20 sd_20 (fun v11 => ?_)
    refine vv_iload 87 hk dX4_flow_85 rfl rfl ?_
    refine vv_iadd 88 hk dX4_flow_87 rfl ?_
    refine vv_iast 89 hk he dX4_flow_88 rfl la_20 sd_20 (fun σ12 => ?_)
    refine vv_iinc 92 (fun x13 => [some (rf G 19), some (rf G 1), some (.int a1), some (.int a2), some (.int a3), some (.long x2), none, some (.int x13), some (.int x4), some (.long x6), none, some (.int x8)]) hk dX4_flow_89 rfl rfl ic_1 (fun _ => rfl) (fun x13 => ?_)
    refine vv_goto 14 hk dX4_flow_92 rfl ?_
    exact vv_le (ll_s rfl (ll_s rfl (ll_s rfl (ll_s rfl (ll_s rfl (ll_s rfl (ll_n (ll_s rfl (ll_n (ll_n (ll_n (ll_n ll_0)))))))))))) (hkl14 (x13, σ12))
theorem c_X4_giveBack_13 (G : GT) (a1 : Int32) (σ : Hp) : CtV G true yX4_giveBack cX4_giveBack 6 none 1 [(rf G 13), (rf G 1), (.int a1)] (f_X4_giveBack 13 a1 σ) σ := by
  refine ctV (L0 := [some (rf G 13), some (rf G 1), some (.int a1), none, none, none]) (by decide +kernel) rfl rfl rfl (fun κ hk he hret => ?_)
  have hk : KO G κ cX4_giveBack RX4 1 := hk
  refine vv_iconst 1 hk dX4_giveBack_0 rfl ic_0 ?_
  refine vv_istore_n (i := 3) 2 [some (rf G 13), some (rf G 1), some (.int a1), some (.int (0 : Int32)), none, none] hk dX4_giveBack_1 rfl rfl rfl rfl ?_
  refine vv_jn (fun t1 => (t1, 67, [some (rf G 13), some (rf G 1), some (.int a1), none, none, none], [])) (fun t1 => ?_) (fun k67 hk67 => ?_)
  · skip
    refine vv_aload_n (i := 0) 68 hk dX4_giveBack_67 rfl rfl rfl ?_
    refine vv_iload_n (i := 2) 69 hk dX4_giveBack_68 rfl rfl rfl ?_
    refine vv_invIr (st := []) 72 hk he dX4_giveBack_69 rfl ml_4_120 cf_X4_held la_13 ci_4 (c_X4_held_13 G a1 t1) rfl rfl rfl rfl (fun v2 => ?_)
    refine vv_if_ne 89 75 hk dX4_giveBack_72 rfl rfl ?_ ?_
    · skip
      refine vv_aload_n (i := 0) 76 hk dX4_giveBack_75 rfl rfl rfl ?_
      refine vv_dup 77 hk dX4_giveBack_76 rfl rfl ?_
      refine vv_getI 80 hk he dX4_giveBack_77 rfl la_13 rfl ci_4 rfl fl_4_31 sd_13 ?_
      refine vv_iconst 81 hk dX4_giveBack_80 rfl ic_1 ?_
      refine vv_iload_n (i := 2) 82 hk dX4_giveBack_81 rfl rfl rfl ?_
      refine vv_ishl 83 hk dX4_giveBack_82 rfl ?_
      refine vv_iconst 84 hk dX4_giveBack_83 rfl ic_m1 ?_
      refine vv_ixor 85 hk dX4_giveBack_84 rfl ?_
      refine vv_iand 86 hk dX4_giveBack_85 rfl ?_
      refine vv_putI 89 hk he dX4_giveBack_86 rfl la_13 rfl ci_4 rfl fl_4_31 sd_13 rfl rfl (fun σ3 => ?_)
      exact hret _ _ _ dX4_giveBack_89
    · skip
      exact hret _ _ _ dX4_giveBack_89
  · skip
    refine vv_lp (fun t4 => (t4.2, 2, [some (rf G 13), some (rf G 1), some (.int a1), some (.int t4.1), none, none], [])) (fun kl2 hkl2 t4 => ?_) FU ((0 : Int32), σ)
    refine vv_iload_n (i := 3) 3 hk dX4_giveBack_2 rfl rfl rfl ?_
    refine vv_iconst 4 hk dX4_giveBack_3 rfl ic_3 ?_
    refine vv_icmp_ge 67 7 hk dX4_giveBack_4 rfl rfl ?_ ?_
    · skip
      exact vv_le (ll_s rfl (ll_s rfl (ll_s rfl (ll_n (ll_n (ll_n ll_0)))))) (hk67 t4.2)
    · skip
      refine vv_iload_n (i := 2) 8 hk dX4_giveBack_7 rfl rfl rfl ?_
      refine vv_iconst 9 hk dX4_giveBack_8 rfl ic_3 ?_
      refine vv_imul 10 hk dX4_giveBack_9 rfl ?_
      refine vv_iload_n (i := 3) 11 hk dX4_giveBack_10 rfl rfl rfl ?_
      refine vv_iadd 12 hk dX4_giveBack_11 rfl ?_
      refine vv_istoreL 14 (fun x5 => [some (rf G 13), some (rf G 1), some (.int a1), some (.int t4.1), some (.int x5), none]) hk dX4_giveBack_12 rfl rfl (fun _ => rfl) (fun x5 => ?_)
      refine vv_aload_n (i := 0) 15 hk dX4_giveBack_14 rfl rfl rfl ?_
      refine vv_getR 18 hk dX4_giveBack_15 rfl la_13 rfl ci_4 rfl fl_4_18 ?_
      refine vv_iload 20 hk dX4_giveBack_18 rfl rfl ?_
      refine vv_iald 21 hk he dX4_giveBack_20 rfl la_16 sd_16 (fun v6 => ?_)
      refine vv_bipush 23 hk dX4_giveBack_21 rfl bp_9 ?_
      refine vv_iadd 24 hk dX4_giveBack_23 rfl ?_
      refine vv_bipush 26 hk dX4_giveBack_24 rfl bp_10 ?_
      refine vv_idiv 27 hk dX4_giveBack_26 rfl ?_
      refine vv_istoreL 29 (fun x7 => [some (rf G 13), some (rf G 1), some (.int a1), some (.int t4.1), some (.int x5), some (.int x7)]) hk dX4_giveBack_27 rfl rfl (fun _ => rfl) (fun x7 => ?_)
      refine vv_aload_n (i := 0) 30 hk dX4_giveBack_29 rfl rfl rfl ?_
      refine vv_getR 33 hk dX4_giveBack_30 rfl la_13 rfl ci_4 rfl fl_4_18 ?_
      refine vv_iload 35 hk dX4_giveBack_33 rfl rfl ?_
      refine vv_dup2 36 hk dX4_giveBack_35 rfl rfl rfl ?_
      refine vv_iald 37 hk he dX4_giveBack_36 rfl la_16 sd_16 (fun v8 => ?_)
      refine vv_iload 39 hk dX4_giveBack_37 rfl rfl ?_
      refine vv_isub 40 hk dX4_giveBack_39 rfl ?_
      refine vv_iast 41 hk he dX4_giveBack_40 rfl la_16 sd_16 (fun σ9 => ?_)
      refine vv_aload_n (i := 0) 42 hk dX4_giveBack_41 rfl rfl rfl ?_
      refine vv_getR 45 hk dX4_giveBack_42 rfl la_13 rfl ci_4 rfl fl_4_9 ?_
      refine vv_aload_n (i := 1) 46 hk dX4_giveBack_45 rfl rfl rfl ?_
      refine vv_getR 49 hk dX4_giveBack_46 rfl la_1 rfl ci_5 rfl fl_4_114 ?_
      refine vv_iload_n (i := 2) 50 hk dX4_giveBack_49 rfl rfl rfl ?_
      refine vv_iald 51 hk he dX4_giveBack_50 rfl la_10 sd_10 (fun v10 => ?_)
      refine vv_iconst 52 hk dX4_giveBack_51 rfl ic_3 ?_
      refine vv_imul 53 hk dX4_giveBack_52 rfl ?_
      refine vv_iload_n (i := 3) 54 hk dX4_giveBack_53 rfl rfl rfl ?_
      refine vv_iadd 55 hk dX4_giveBack_54 rfl ?_
      refine vv_dup2 56 hk dX4_giveBack_55 rfl rfl rfl ?_
      refine vv_iald 57 hk he dX4_giveBack_56 rfl la_14 sd_14 (fun v11 => ?_)
      refine vv_iload 59 hk dX4_giveBack_57 rfl rfl ?_
      refine vv_iadd 60 hk dX4_giveBack_59 rfl ?_
      refine vv_iast 61 hk he dX4_giveBack_60 rfl la_14 sd_14 (fun σ12 => ?_)
      refine vv_iinc 64 (fun x13 => [some (rf G 13), some (rf G 1), some (.int a1), some (.int x13), some (.int x5), some (.int x7)]) hk dX4_giveBack_61 rfl rfl ic_1 (fun _ => rfl) (fun x13 => ?_)
      refine vv_goto 2 hk dX4_giveBack_64 rfl ?_
      exact vv_le (ll_s rfl (ll_s rfl (ll_s rfl (ll_s rfl (ll_n (ll_n ll_0)))))) (hkl2 (x13, σ12))
theorem c_X4_giveBack_19 (G : GT) (a1 : Int32) (σ : Hp) : CtV G true yX4_giveBack cX4_giveBack 6 none 1 [(rf G 19), (rf G 1), (.int a1)] (f_X4_giveBack 19 a1 σ) σ := by
  refine ctV (L0 := [some (rf G 19), some (rf G 1), some (.int a1), none, none, none]) (by decide +kernel) rfl rfl rfl (fun κ hk he hret => ?_)
  have hk : KO G κ cX4_giveBack RX4 1 := hk
  refine vv_iconst 1 hk dX4_giveBack_0 rfl ic_0 ?_
  refine vv_istore_n (i := 3) 2 [some (rf G 19), some (rf G 1), some (.int a1), some (.int (0 : Int32)), none, none] hk dX4_giveBack_1 rfl rfl rfl rfl ?_
  refine vv_jn (fun t1 => (t1, 67, [some (rf G 19), some (rf G 1), some (.int a1), none, none, none], [])) (fun t1 => ?_) (fun k67 hk67 => ?_)
  · skip
    refine vv_aload_n (i := 0) 68 hk dX4_giveBack_67 rfl rfl rfl ?_
    refine vv_iload_n (i := 2) 69 hk dX4_giveBack_68 rfl rfl rfl ?_
    refine vv_invIr (st := []) 72 hk he dX4_giveBack_69 rfl ml_4_120 cf_X4_held la_19 ci_4 (c_X4_held_19 G a1 t1) rfl rfl rfl rfl (fun v2 => ?_)
    refine vv_if_ne 89 75 hk dX4_giveBack_72 rfl rfl ?_ ?_
    · skip
      refine vv_aload_n (i := 0) 76 hk dX4_giveBack_75 rfl rfl rfl ?_
      refine vv_dup 77 hk dX4_giveBack_76 rfl rfl ?_
      refine vv_getI 80 hk he dX4_giveBack_77 rfl la_19 rfl ci_4 rfl fl_4_31 sd_19 ?_
      refine vv_iconst 81 hk dX4_giveBack_80 rfl ic_1 ?_
      refine vv_iload_n (i := 2) 82 hk dX4_giveBack_81 rfl rfl rfl ?_
      refine vv_ishl 83 hk dX4_giveBack_82 rfl ?_
      refine vv_iconst 84 hk dX4_giveBack_83 rfl ic_m1 ?_
      refine vv_ixor 85 hk dX4_giveBack_84 rfl ?_
      refine vv_iand 86 hk dX4_giveBack_85 rfl ?_
      refine vv_putI 89 hk he dX4_giveBack_86 rfl la_19 rfl ci_4 rfl fl_4_31 sd_19 rfl rfl (fun σ3 => ?_)
      exact hret _ _ _ dX4_giveBack_89
    · skip
      exact hret _ _ _ dX4_giveBack_89
  · skip
    refine vv_lp (fun t4 => (t4.2, 2, [some (rf G 19), some (rf G 1), some (.int a1), some (.int t4.1), none, none], [])) (fun kl2 hkl2 t4 => ?_) FU ((0 : Int32), σ)
    refine vv_iload_n (i := 3) 3 hk dX4_giveBack_2 rfl rfl rfl ?_
    refine vv_iconst 4 hk dX4_giveBack_3 rfl ic_3 ?_
    refine vv_icmp_ge 67 7 hk dX4_giveBack_4 rfl rfl ?_ ?_
    · skip
      exact vv_le (ll_s rfl (ll_s rfl (ll_s rfl (ll_n (ll_n (ll_n ll_0)))))) (hk67 t4.2)
    · skip
      refine vv_iload_n (i := 2) 8 hk dX4_giveBack_7 rfl rfl rfl ?_
      refine vv_iconst 9 hk dX4_giveBack_8 rfl ic_3 ?_
      refine vv_imul 10 hk dX4_giveBack_9 rfl ?_
      refine vv_iload_n (i := 3) 11 hk dX4_giveBack_10 rfl rfl rfl ?_
      refine vv_iadd 12 hk dX4_giveBack_11 rfl ?_
      refine vv_istoreL 14 (fun x5 => [some (rf G 19), some (rf G 1), some (.int a1), some (.int t4.1), some (.int x5), none]) hk dX4_giveBack_12 rfl rfl (fun _ => rfl) (fun x5 => ?_)
      refine vv_aload_n (i := 0) 15 hk dX4_giveBack_14 rfl rfl rfl ?_
      refine vv_getR 18 hk dX4_giveBack_15 rfl la_19 rfl ci_4 rfl fl_4_18 ?_
      refine vv_iload 20 hk dX4_giveBack_18 rfl rfl ?_
      refine vv_iald 21 hk he dX4_giveBack_20 rfl la_22 sd_22 (fun v6 => ?_)
      refine vv_bipush 23 hk dX4_giveBack_21 rfl bp_9 ?_
      refine vv_iadd 24 hk dX4_giveBack_23 rfl ?_
      refine vv_bipush 26 hk dX4_giveBack_24 rfl bp_10 ?_
      refine vv_idiv 27 hk dX4_giveBack_26 rfl ?_
      refine vv_istoreL 29 (fun x7 => [some (rf G 19), some (rf G 1), some (.int a1), some (.int t4.1), some (.int x5), some (.int x7)]) hk dX4_giveBack_27 rfl rfl (fun _ => rfl) (fun x7 => ?_)
      refine vv_aload_n (i := 0) 30 hk dX4_giveBack_29 rfl rfl rfl ?_
      refine vv_getR 33 hk dX4_giveBack_30 rfl la_19 rfl ci_4 rfl fl_4_18 ?_
      refine vv_iload 35 hk dX4_giveBack_33 rfl rfl ?_
      refine vv_dup2 36 hk dX4_giveBack_35 rfl rfl rfl ?_
      refine vv_iald 37 hk he dX4_giveBack_36 rfl la_22 sd_22 (fun v8 => ?_)
      refine vv_iload 39 hk dX4_giveBack_37 rfl rfl ?_
      refine vv_isub 40 hk dX4_giveBack_39 rfl ?_
      refine vv_iast 41 hk he dX4_giveBack_40 rfl la_22 sd_22 (fun σ9 => ?_)
      refine vv_aload_n (i := 0) 42 hk dX4_giveBack_41 rfl rfl rfl ?_
      refine vv_getR 45 hk dX4_giveBack_42 rfl la_19 rfl ci_4 rfl fl_4_9 ?_
      refine vv_aload_n (i := 1) 46 hk dX4_giveBack_45 rfl rfl rfl ?_
      refine vv_getR 49 hk dX4_giveBack_46 rfl la_1 rfl ci_5 rfl fl_4_114 ?_
      refine vv_iload_n (i := 2) 50 hk dX4_giveBack_49 rfl rfl rfl ?_
      refine vv_iald 51 hk he dX4_giveBack_50 rfl la_10 sd_10 (fun v10 => ?_)
      refine vv_iconst 52 hk dX4_giveBack_51 rfl ic_3 ?_
      refine vv_imul 53 hk dX4_giveBack_52 rfl ?_
      refine vv_iload_n (i := 3) 54 hk dX4_giveBack_53 rfl rfl rfl ?_
      refine vv_iadd 55 hk dX4_giveBack_54 rfl ?_
      refine vv_dup2 56 hk dX4_giveBack_55 rfl rfl rfl ?_
      refine vv_iald 57 hk he dX4_giveBack_56 rfl la_20 sd_20 (fun v11 => ?_)
      refine vv_iload 59 hk dX4_giveBack_57 rfl rfl ?_
      refine vv_iadd 60 hk dX4_giveBack_59 rfl ?_
      refine vv_iast 61 hk he dX4_giveBack_60 rfl la_20 sd_20 (fun σ12 => ?_)
      refine vv_iinc 64 (fun x13 => [some (rf G 19), some (rf G 1), some (.int a1), some (.int x13), some (.int x5), some (.int x7)]) hk dX4_giveBack_61 rfl rfl ic_1 (fun _ => rfl) (fun x13 => ?_)
      refine vv_goto 2 hk dX4_giveBack_64 rfl ?_
      exact vv_le (ll_s rfl (ll_s rfl (ll_s rfl (ll_s rfl (ll_n (ll_n ll_0)))))) (hkl2 (x13, σ12))
theorem c_X5_givenShare (G : GT) (a1 : Int32) (σ : Hp) : CtI G true yX5_givenShare cX5_givenShare 2 (some .int) 0 [(rf G 1), (.int a1)] (rdI (f_X5_givenShare a1 σ) σ) σ := by
  refine ctIr (L0 := [some (rf G 1), some (.int a1)]) (by decide +kernel) rfl rfl rfl (fun κ hk he hret => ?_)
  have hk : KO G κ cX5_givenShare RX5 0 := hk
  refine vv_aload_n (i := 0) 1 hk dX5_givenShare_0 rfl rfl rfl ?_
  refine vv_getR 4 hk dX5_givenShare_1 rfl la_1 rfl ci_5 rfl fl_5_21 ?_
  refine vv_aload_n (i := 0) 5 hk dX5_givenShare_4 rfl rfl rfl ?_
  refine vv_getR 8 hk dX5_givenShare_5 rfl la_1 rfl ci_5 rfl fl_5_15 ?_
  refine vv_iload_n (i := 1) 9 hk dX5_givenShare_8 rfl rfl rfl ?_
  refine vv_iald 10 hk he dX5_givenShare_9 rfl la_3 sd_3 (fun v1 => ?_)
  refine vv_bipush 12 hk dX5_givenShare_10 rfl bp_10 ?_
  refine vv_imul 13 hk dX5_givenShare_12 rfl ?_
  refine vv_aload_n (i := 0) 14 hk dX5_givenShare_13 rfl rfl rfl ?_
  refine vv_getR 17 hk dX5_givenShare_14 rfl la_1 rfl ci_5 rfl fl_5_18 ?_
  refine vv_iload_n (i := 1) 18 hk dX5_givenShare_17 rfl rfl rfl ?_
  refine vv_iald 19 hk he dX5_givenShare_18 rfl la_4 sd_4 (fun v2 => ?_)
  refine vv_iadd 20 hk dX5_givenShare_19 rfl ?_
  refine vv_iald 21 hk he dX5_givenShare_20 rfl la_5 sd_5 (fun v3 => ?_)
  exact hret _ _ _ dX5_givenShare_21
theorem c_X4_giveOff_13 (G : GT) (σ : Hp) : CtV G true yX4_giveOff cX4_giveOff 6 none 1 [(rf G 13), (rf G 1)] (f_X4_giveOff 13 σ) σ := by
  refine ctV (L0 := [some (rf G 13), some (rf G 1), none, none, none, none]) (by decide +kernel) rfl rfl rfl (fun κ hk he hret => ?_)
  have hk : KO G κ cX4_giveOff RX4 1 := hk
  refine vv_iconst 1 hk dX4_giveOff_0 rfl ic_0 ?_
  refine vv_istore_n (i := 2) 2 [some (rf G 13), some (rf G 1), some (.int (0 : Int32)), none, none, none] hk dX4_giveOff_1 rfl rfl rfl rfl ?_
  refine vv_lp (fun t1 => (t1.2, 2, [some (rf G 13), some (rf G 1), some (.int t1.1), none, none, none], [])) (fun kl2 hkl2 t1 => ?_) FU ((0 : Int32), σ)
  refine vv_iload_n (i := 2) 3 hk dX4_giveOff_2 rfl rfl rfl ?_
  refine vv_aload_n (i := 1) 4 hk dX4_giveOff_3 rfl rfl rfl ?_
  refine vv_getI 7 hk he dX4_giveOff_4 rfl la_1 rfl ci_5 rfl fl_4_56 sd_1 ?_
  refine vv_icmp_ge 85 10 hk dX4_giveOff_7 rfl rfl ?_ ?_
  · skip
    exact hret _ _ _ dX4_giveOff_85
  · skip
    refine vv_aload_n (i := 1) 11 hk dX4_giveOff_10 rfl rfl rfl ?_
    refine vv_iload_n (i := 2) 12 hk dX4_giveOff_11 rfl rfl rfl ?_
    refine vv_invIr (st := []) 15 hk he dX4_giveOff_12 rfl ml_4_105 cf_X5_givenShare la_1 ci_5 (c_X5_givenShare G t1.1 t1.2) rfl rfl rfl rfl (fun v2 => ?_)
    refine vv_istore_n (i := 3) 16 [some (rf G 13), some (rf G 1), some (.int t1.1), some (.int v2), none, none] hk dX4_giveOff_15 rfl rfl rfl rfl ?_
    refine vv_iload_n (i := 2) 17 hk dX4_giveOff_16 rfl rfl rfl ?_
    refine vv_iconst 18 hk dX4_giveOff_17 rfl ic_3 ?_
    refine vv_imul 19 hk dX4_giveOff_18 rfl ?_
    refine vv_istoreL 21 (fun x3 => [some (rf G 13), some (rf G 1), some (.int t1.1), some (.int v2), some (.int x3), none]) hk dX4_giveOff_19 rfl rfl (fun _ => rfl) (fun x3 => ?_)
    refine vv_jn (fun t4 => (t4, 79, [some (rf G 13), some (rf G 1), some (.int t1.1), none, none, none], [])) (fun t4 => ?_) (fun k79 hk79 => ?_)
    · skip
      refine vv_iinc 82 (fun x5 => [some (rf G 13), some (rf G 1), some (.int x5), none, none, none]) hk dX4_giveOff_79 rfl rfl ic_1 (fun _ => rfl) (fun x5 => ?_)
      refine vv_goto 2 hk dX4_giveOff_82 rfl ?_
      exact vv_le (ll_s rfl (ll_s rfl (ll_s rfl (ll_n (ll_n (ll_n ll_0)))))) (hkl2 (x5, t4))
    · skip
      refine vv_lp (fun t6 => (t6.2, 21, [some (rf G 13), some (rf G 1), some (.int t1.1), some (.int v2), some (.int t6.1), none], [])) (fun kl21 hkl21 t6 => ?_) FU (x3, t1.2)
      refine vv_iload 23 hk dX4_giveOff_21 rfl rfl ?_
      refine vv_iload_n (i := 2) 24 hk dX4_giveOff_23 rfl rfl rfl ?_
      refine vv_iconst 25 hk dX4_giveOff_24 rfl ic_3 ?_
      refine vv_imul 26 hk dX4_giveOff_25 rfl ?_
      refine vv_iconst 27 hk dX4_giveOff_26 rfl ic_3 ?_
      refine vv_iadd 28 hk dX4_giveOff_27 rfl ?_
      refine vv_icmp_ge 79 31 hk dX4_giveOff_28 rfl rfl ?_ ?_
      · skip
        exact vv_le (ll_s rfl (ll_s rfl (ll_s rfl (ll_n (ll_n (ll_n ll_0)))))) (hk79 t6.2)
      · skip
        refine vv_aload_n (i := 0) 32 hk dX4_giveOff_31 rfl rfl rfl ?_
        refine vv_getR 35 hk dX4_giveOff_32 rfl la_13 rfl ci_4 rfl fl_4_15 ?_
        refine vv_iload 37 hk dX4_giveOff_35 rfl rfl ?_
        refine vv_iald 38 hk he dX4_giveOff_37 rfl la_15 sd_15 (fun v7 => ?_)
        refine vv_i2l 39 hk dX4_giveOff_38 rfl ?_
        refine vv_iload_n (i := 3) 40 hk dX4_giveOff_39 rfl rfl rfl ?_
        refine vv_i2l 41 hk dX4_giveOff_40 rfl ?_
        refine vv_lmul 42 hk dX4_giveOff_41 rfl ?_
        refine vv_ldc2 45 hk dX4_giveOff_42 rfl cw_4_109 ?_
        refine vv_ldiv 46 hk dX4_giveOff_45 rfl ?_
        refine vv_l2i 47 hk dX4_giveOff_46 rfl ?_
        refine vv_istoreL 49 (fun x8 => [some (rf G 13), some (rf G 1), some (.int t1.1), some (.int v2), some (.int t6.1), some (.int x8)]) hk dX4_giveOff_47 rfl rfl (fun _ => rfl) (fun x8 => ?_)
        refine vv_aload_n (i := 0) 50 hk dX4_giveOff_49 rfl rfl rfl ?_
        refine vv_getR 53 hk dX4_giveOff_50 rfl la_13 rfl ci_4 rfl fl_4_15 ?_
        refine vv_iload 55 hk dX4_giveOff_53 rfl rfl ?_
        refine vv_dup2 56 hk dX4_giveOff_55 rfl rfl rfl ?_
        refine vv_iald 57 hk he dX4_giveOff_56 rfl la_15 sd_15 (fun v9 => ?_)
        refine vv_iload 59 hk dX4_giveOff_57 rfl rfl ?_
        refine vv_isub 60 hk dX4_giveOff_59 rfl ?_
        refine vv_iast 61 hk he dX4_giveOff_60 rfl la_15 sd_15 (fun σ10 => ?_)
        refine vv_aload_n (i := 0) 62 hk dX4_giveOff_61 rfl rfl rfl ?_
        refine vv_getR 65 hk dX4_giveOff_62 rfl la_13 rfl ci_4 rfl fl_4_9 ?_
        refine vv_iload 67 hk dX4_giveOff_65 rfl rfl ?_
        refine vv_dup2 68 hk dX4_giveOff_67 rfl rfl rfl ?_
        refine vv_iald 69 hk he dX4_giveOff_68 rfl la_14 sd_14 (fun v11 => ?_)
        refine vv_iload 71 hk dX4_giveOff_69 rfl rfl ?_
        refine vv_iadd 72 hk dX4_giveOff_71 rfl ?_
        refine vv_iast 73 hk he dX4_giveOff_72 rfl la_14 sd_14 (fun σ12 => ?_)
        refine vv_iinc 76 (fun x13 => [some (rf G 13), some (rf G 1), some (.int t1.1), some (.int v2), some (.int x13), some (.int x8)]) hk dX4_giveOff_73 rfl rfl ic_1 (fun _ => rfl) (fun x13 => ?_)
        refine vv_goto 21 hk dX4_giveOff_76 rfl ?_
        exact vv_le (ll_s rfl (ll_s rfl (ll_s rfl (ll_s rfl (ll_s rfl (ll_n ll_0)))))) (hkl21 (x13, σ12))
theorem c_X4_giveOff_19 (G : GT) (σ : Hp) : CtV G true yX4_giveOff cX4_giveOff 6 none 1 [(rf G 19), (rf G 1)] (f_X4_giveOff 19 σ) σ := by
  refine ctV (L0 := [some (rf G 19), some (rf G 1), none, none, none, none]) (by decide +kernel) rfl rfl rfl (fun κ hk he hret => ?_)
  have hk : KO G κ cX4_giveOff RX4 1 := hk
  refine vv_iconst 1 hk dX4_giveOff_0 rfl ic_0 ?_
  refine vv_istore_n (i := 2) 2 [some (rf G 19), some (rf G 1), some (.int (0 : Int32)), none, none, none] hk dX4_giveOff_1 rfl rfl rfl rfl ?_
  refine vv_lp (fun t1 => (t1.2, 2, [some (rf G 19), some (rf G 1), some (.int t1.1), none, none, none], [])) (fun kl2 hkl2 t1 => ?_) FU ((0 : Int32), σ)
  refine vv_iload_n (i := 2) 3 hk dX4_giveOff_2 rfl rfl rfl ?_
  refine vv_aload_n (i := 1) 4 hk dX4_giveOff_3 rfl rfl rfl ?_
  refine vv_getI 7 hk he dX4_giveOff_4 rfl la_1 rfl ci_5 rfl fl_4_56 sd_1 ?_
  refine vv_icmp_ge 85 10 hk dX4_giveOff_7 rfl rfl ?_ ?_
  · skip
    exact hret _ _ _ dX4_giveOff_85
  · skip
    refine vv_aload_n (i := 1) 11 hk dX4_giveOff_10 rfl rfl rfl ?_
    refine vv_iload_n (i := 2) 12 hk dX4_giveOff_11 rfl rfl rfl ?_
    refine vv_invIr (st := []) 15 hk he dX4_giveOff_12 rfl ml_4_105 cf_X5_givenShare la_1 ci_5 (c_X5_givenShare G t1.1 t1.2) rfl rfl rfl rfl (fun v2 => ?_)
    refine vv_istore_n (i := 3) 16 [some (rf G 19), some (rf G 1), some (.int t1.1), some (.int v2), none, none] hk dX4_giveOff_15 rfl rfl rfl rfl ?_
    refine vv_iload_n (i := 2) 17 hk dX4_giveOff_16 rfl rfl rfl ?_
    refine vv_iconst 18 hk dX4_giveOff_17 rfl ic_3 ?_
    refine vv_imul 19 hk dX4_giveOff_18 rfl ?_
    refine vv_istoreL 21 (fun x3 => [some (rf G 19), some (rf G 1), some (.int t1.1), some (.int v2), some (.int x3), none]) hk dX4_giveOff_19 rfl rfl (fun _ => rfl) (fun x3 => ?_)
    refine vv_jn (fun t4 => (t4, 79, [some (rf G 19), some (rf G 1), some (.int t1.1), none, none, none], [])) (fun t4 => ?_) (fun k79 hk79 => ?_)
    · skip
      refine vv_iinc 82 (fun x5 => [some (rf G 19), some (rf G 1), some (.int x5), none, none, none]) hk dX4_giveOff_79 rfl rfl ic_1 (fun _ => rfl) (fun x5 => ?_)
      refine vv_goto 2 hk dX4_giveOff_82 rfl ?_
      exact vv_le (ll_s rfl (ll_s rfl (ll_s rfl (ll_n (ll_n (ll_n ll_0)))))) (hkl2 (x5, t4))
    · skip
      refine vv_lp (fun t6 => (t6.2, 21, [some (rf G 19), some (rf G 1), some (.int t1.1), some (.int v2), some (.int t6.1), none], [])) (fun kl21 hkl21 t6 => ?_) FU (x3, t1.2)
      refine vv_iload 23 hk dX4_giveOff_21 rfl rfl ?_
      refine vv_iload_n (i := 2) 24 hk dX4_giveOff_23 rfl rfl rfl ?_
      refine vv_iconst 25 hk dX4_giveOff_24 rfl ic_3 ?_
      refine vv_imul 26 hk dX4_giveOff_25 rfl ?_
      refine vv_iconst 27 hk dX4_giveOff_26 rfl ic_3 ?_
      refine vv_iadd 28 hk dX4_giveOff_27 rfl ?_
      refine vv_icmp_ge 79 31 hk dX4_giveOff_28 rfl rfl ?_ ?_
      · skip
        exact vv_le (ll_s rfl (ll_s rfl (ll_s rfl (ll_n (ll_n (ll_n ll_0)))))) (hk79 t6.2)
      · skip
        refine vv_aload_n (i := 0) 32 hk dX4_giveOff_31 rfl rfl rfl ?_
        refine vv_getR 35 hk dX4_giveOff_32 rfl la_19 rfl ci_4 rfl fl_4_15 ?_
        refine vv_iload 37 hk dX4_giveOff_35 rfl rfl ?_
        refine vv_iald 38 hk he dX4_giveOff_37 rfl la_21 sd_21 (fun v7 => ?_)
        refine vv_i2l 39 hk dX4_giveOff_38 rfl ?_
        refine vv_iload_n (i := 3) 40 hk dX4_giveOff_39 rfl rfl rfl ?_
        refine vv_i2l 41 hk dX4_giveOff_40 rfl ?_
        refine vv_lmul 42 hk dX4_giveOff_41 rfl ?_
        refine vv_ldc2 45 hk dX4_giveOff_42 rfl cw_4_109 ?_
        refine vv_ldiv 46 hk dX4_giveOff_45 rfl ?_
        refine vv_l2i 47 hk dX4_giveOff_46 rfl ?_
        refine vv_istoreL 49 (fun x8 => [some (rf G 19), some (rf G 1), some (.int t1.1), some (.int v2), some (.int t6.1), some (.int x8)]) hk dX4_giveOff_47 rfl rfl (fun _ => rfl) (fun x8 => ?_)
        refine vv_aload_n (i := 0) 50 hk dX4_giveOff_49 rfl rfl rfl ?_
        refine vv_getR 53 hk dX4_giveOff_50 rfl la_19 rfl ci_4 rfl fl_4_15 ?_
        refine vv_iload 55 hk dX4_giveOff_53 rfl rfl ?_
        refine vv_dup2 56 hk dX4_giveOff_55 rfl rfl rfl ?_
        refine vv_iald 57 hk he dX4_giveOff_56 rfl la_21 sd_21 (fun v9 => ?_)
        refine vv_iload 59 hk dX4_giveOff_57 rfl rfl ?_
        refine vv_isub 60 hk dX4_giveOff_59 rfl ?_
        refine vv_iast 61 hk he dX4_giveOff_60 rfl la_21 sd_21 (fun σ10 => ?_)
        refine vv_aload_n (i := 0) 62 hk dX4_giveOff_61 rfl rfl rfl ?_
        refine vv_getR 65 hk dX4_giveOff_62 rfl la_19 rfl ci_4 rfl fl_4_9 ?_
        refine vv_iload 67 hk dX4_giveOff_65 rfl rfl ?_
        refine vv_dup2 68 hk dX4_giveOff_67 rfl rfl rfl ?_
        refine vv_iald 69 hk he dX4_giveOff_68 rfl la_20 sd_20 (fun v11 => ?_)
        refine vv_iload 71 hk dX4_giveOff_69 rfl rfl ?_
        refine vv_iadd 72 hk dX4_giveOff_71 rfl ?_
        refine vv_iast 73 hk he dX4_giveOff_72 rfl la_20 sd_20 (fun σ12 => ?_)
        refine vv_iinc 76 (fun x13 => [some (rf G 19), some (rf G 1), some (.int t1.1), some (.int v2), some (.int x13), some (.int x8)]) hk dX4_giveOff_73 rfl rfl ic_1 (fun _ => rfl) (fun x13 => ?_)
        refine vv_goto 21 hk dX4_giveOff_76 rfl ?_
        exact vv_le (ll_s rfl (ll_s rfl (ll_s rfl (ll_s rfl (ll_s rfl (ll_n ll_0)))))) (hkl21 (x13, σ12))
theorem c_X4_leakIn_13 (G : GT) (σ : Hp) : CtV G true yX4_leakIn cX4_leakIn 3 none 0 [(rf G 13), (rf G 1)] (f_X4_leakIn 13 σ) σ := by
  refine ctV (L0 := [some (rf G 13), some (rf G 1), none]) (by decide +kernel) rfl rfl rfl (fun κ hk he hret => ?_)
  have hk : KO G κ cX4_leakIn RX4 0 := hk
  refine vv_iconst 1 hk dX4_leakIn_0 rfl ic_0 ?_
  refine vv_istore_n (i := 2) 2 [some (rf G 13), some (rf G 1), some (.int (0 : Int32))] hk dX4_leakIn_1 rfl rfl rfl rfl ?_
  refine vv_lp (fun t1 => (t1.2, 2, [some (rf G 13), some (rf G 1), some (.int t1.1)], [])) (fun kl2 hkl2 t1 => ?_) FU ((0 : Int32), σ)
  refine vv_iload_n (i := 2) 3 hk dX4_leakIn_2 rfl rfl rfl ?_
  refine vv_aload_n (i := 1) 4 hk dX4_leakIn_3 rfl rfl rfl ?_
  refine vv_getI 7 hk he dX4_leakIn_4 rfl la_1 rfl ci_5 rfl fl_4_56 sd_1 ?_
  refine vv_iconst 8 hk dX4_leakIn_7 rfl ic_3 ?_
  refine vv_imul 9 hk dX4_leakIn_8 rfl ?_
  refine vv_icmp_ge 50 12 hk dX4_leakIn_9 rfl rfl ?_ ?_
  · skip
    exact hret _ _ _ dX4_leakIn_50
  · skip
    refine vv_aload_n (i := 0) 13 hk dX4_leakIn_12 rfl rfl rfl ?_
    refine vv_getR 16 hk dX4_leakIn_13 rfl la_13 rfl ci_4 rfl fl_4_9 ?_
    refine vv_iload_n (i := 2) 17 hk dX4_leakIn_16 rfl rfl rfl ?_
    refine vv_dup2 18 hk dX4_leakIn_17 rfl rfl rfl ?_
    refine vv_iald 19 hk he dX4_leakIn_18 rfl la_14 sd_14 (fun v2 => ?_)
    refine vv_aload_n (i := 1) 20 hk dX4_leakIn_19 rfl rfl rfl ?_
    refine vv_getR 23 hk dX4_leakIn_20 rfl la_1 rfl ci_5 rfl fl_4_111 ?_
    refine vv_iload_n (i := 2) 24 hk dX4_leakIn_23 rfl rfl rfl ?_
    refine vv_iald 25 hk he dX4_leakIn_24 rfl la_6 sd_6 (fun v3 => ?_)
    refine vv_iadd 26 hk dX4_leakIn_25 rfl ?_
    refine vv_iast 27 hk he dX4_leakIn_26 rfl la_14 sd_14 (fun σ4 => ?_)
    refine vv_aload_n (i := 0) 28 hk dX4_leakIn_27 rfl rfl rfl ?_
    refine vv_getR 31 hk dX4_leakIn_28 rfl la_13 rfl ci_4 rfl fl_4_21 ?_
    refine vv_iload_n (i := 2) 32 hk dX4_leakIn_31 rfl rfl rfl ?_
    refine vv_iconst 33 hk dX4_leakIn_32 rfl ic_3 ?_
    refine vv_irem 34 hk dX4_leakIn_33 rfl ?_
    refine vv_dup2 35 hk dX4_leakIn_34 rfl rfl rfl ?_
    refine vv_iald 36 hk he dX4_leakIn_35 rfl la_17 sd_17 (fun v5 => ?_)
    refine vv_aload_n (i := 1) 37 hk dX4_leakIn_36 rfl rfl rfl ?_
    refine vv_getR 40 hk dX4_leakIn_37 rfl la_1 rfl ci_5 rfl fl_4_111 ?_
    refine vv_iload_n (i := 2) 41 hk dX4_leakIn_40 rfl rfl rfl ?_
    refine vv_iald 42 hk he dX4_leakIn_41 rfl la_6 sd_6 (fun v6 => ?_)
    refine vv_iadd 43 hk dX4_leakIn_42 rfl ?_
    refine vv_iast 44 hk he dX4_leakIn_43 rfl la_17 sd_17 (fun σ7 => ?_)
    refine vv_iinc 47 (fun x8 => [some (rf G 13), some (rf G 1), some (.int x8)]) hk dX4_leakIn_44 rfl rfl ic_1 (fun _ => rfl) (fun x8 => ?_)
    refine vv_goto 2 hk dX4_leakIn_47 rfl ?_
    exact vv_le (ll_s rfl (ll_s rfl (ll_s rfl ll_0))) (hkl2 (x8, σ7))
theorem c_X4_leakIn_19 (G : GT) (σ : Hp) : CtV G true yX4_leakIn cX4_leakIn 3 none 0 [(rf G 19), (rf G 1)] (f_X4_leakIn 19 σ) σ := by
  refine ctV (L0 := [some (rf G 19), some (rf G 1), none]) (by decide +kernel) rfl rfl rfl (fun κ hk he hret => ?_)
  have hk : KO G κ cX4_leakIn RX4 0 := hk
  refine vv_iconst 1 hk dX4_leakIn_0 rfl ic_0 ?_
  refine vv_istore_n (i := 2) 2 [some (rf G 19), some (rf G 1), some (.int (0 : Int32))] hk dX4_leakIn_1 rfl rfl rfl rfl ?_
  refine vv_lp (fun t1 => (t1.2, 2, [some (rf G 19), some (rf G 1), some (.int t1.1)], [])) (fun kl2 hkl2 t1 => ?_) FU ((0 : Int32), σ)
  refine vv_iload_n (i := 2) 3 hk dX4_leakIn_2 rfl rfl rfl ?_
  refine vv_aload_n (i := 1) 4 hk dX4_leakIn_3 rfl rfl rfl ?_
  refine vv_getI 7 hk he dX4_leakIn_4 rfl la_1 rfl ci_5 rfl fl_4_56 sd_1 ?_
  refine vv_iconst 8 hk dX4_leakIn_7 rfl ic_3 ?_
  refine vv_imul 9 hk dX4_leakIn_8 rfl ?_
  refine vv_icmp_ge 50 12 hk dX4_leakIn_9 rfl rfl ?_ ?_
  · skip
    exact hret _ _ _ dX4_leakIn_50
  · skip
    refine vv_aload_n (i := 0) 13 hk dX4_leakIn_12 rfl rfl rfl ?_
    refine vv_getR 16 hk dX4_leakIn_13 rfl la_19 rfl ci_4 rfl fl_4_9 ?_
    refine vv_iload_n (i := 2) 17 hk dX4_leakIn_16 rfl rfl rfl ?_
    refine vv_dup2 18 hk dX4_leakIn_17 rfl rfl rfl ?_
    refine vv_iald 19 hk he dX4_leakIn_18 rfl la_20 sd_20 (fun v2 => ?_)
    refine vv_aload_n (i := 1) 20 hk dX4_leakIn_19 rfl rfl rfl ?_
    refine vv_getR 23 hk dX4_leakIn_20 rfl la_1 rfl ci_5 rfl fl_4_111 ?_
    refine vv_iload_n (i := 2) 24 hk dX4_leakIn_23 rfl rfl rfl ?_
    refine vv_iald 25 hk he dX4_leakIn_24 rfl la_6 sd_6 (fun v3 => ?_)
    refine vv_iadd 26 hk dX4_leakIn_25 rfl ?_
    refine vv_iast 27 hk he dX4_leakIn_26 rfl la_20 sd_20 (fun σ4 => ?_)
    refine vv_aload_n (i := 0) 28 hk dX4_leakIn_27 rfl rfl rfl ?_
    refine vv_getR 31 hk dX4_leakIn_28 rfl la_19 rfl ci_4 rfl fl_4_21 ?_
    refine vv_iload_n (i := 2) 32 hk dX4_leakIn_31 rfl rfl rfl ?_
    refine vv_iconst 33 hk dX4_leakIn_32 rfl ic_3 ?_
    refine vv_irem 34 hk dX4_leakIn_33 rfl ?_
    refine vv_dup2 35 hk dX4_leakIn_34 rfl rfl rfl ?_
    refine vv_iald 36 hk he dX4_leakIn_35 rfl la_23 sd_23 (fun v5 => ?_)
    refine vv_aload_n (i := 1) 37 hk dX4_leakIn_36 rfl rfl rfl ?_
    refine vv_getR 40 hk dX4_leakIn_37 rfl la_1 rfl ci_5 rfl fl_4_111 ?_
    refine vv_iload_n (i := 2) 41 hk dX4_leakIn_40 rfl rfl rfl ?_
    refine vv_iald 42 hk he dX4_leakIn_41 rfl la_6 sd_6 (fun v6 => ?_)
    refine vv_iadd 43 hk dX4_leakIn_42 rfl ?_
    refine vv_iast 44 hk he dX4_leakIn_43 rfl la_23 sd_23 (fun σ7 => ?_)
    refine vv_iinc 47 (fun x8 => [some (rf G 19), some (rf G 1), some (.int x8)]) hk dX4_leakIn_44 rfl rfl ic_1 (fun _ => rfl) (fun x8 => ?_)
    refine vv_goto 2 hk dX4_leakIn_47 rfl ?_
    exact vv_le (ll_s rfl (ll_s rfl (ll_s rfl ll_0))) (hkl2 (x8, σ7))
theorem c_X4_pass_13 (G : GT) (σ : Hp) : CtV G true yX4_pass cX4_pass 3 none 2 [(rf G 13), (rf G 1)] (f_X4_pass 13 σ) σ := by
  refine ctV (L0 := [some (rf G 13), some (rf G 1), none]) (by decide +kernel) rfl rfl rfl (fun κ hk he hret => ?_)
  have hk : KO G κ cX4_pass RX4 2 := hk
  refine vv_aload_n (i := 0) 1 hk dX4_pass_0 rfl rfl rfl ?_
  refine vv_aload_n (i := 1) 2 hk dX4_pass_1 rfl rfl rfl ?_
  refine vv_invV (st := []) 5 hk he dX4_pass_2 rfl ml_4_69 cf_X4_giveOff la_13 ci_4 (c_X4_giveOff_13 G σ) rfl rfl rfl rfl (fun σ1 => ?_)
  refine vv_aload_n (i := 0) 6 hk dX4_pass_5 rfl rfl rfl ?_
  refine vv_aload_n (i := 1) 7 hk dX4_pass_6 rfl rfl rfl ?_
  refine vv_invV (st := []) 10 hk he dX4_pass_7 rfl ml_4_73 cf_X4_leakIn la_13 ci_4 (c_X4_leakIn_13 G σ1) rfl rfl rfl rfl (fun σ2 => ?_)
  refine vv_aload_n (i := 0) 11 hk dX4_pass_10 rfl rfl rfl ?_
  refine vv_getR 14 hk dX4_pass_11 rfl la_13 rfl ci_4 rfl fl_4_9 ?_
  refine vv_iconst 15 hk dX4_pass_14 rfl ic_0 ?_
  refine vv_aload_n (i := 0) 16 hk dX4_pass_15 rfl rfl rfl ?_
  refine vv_getR 19 hk dX4_pass_16 rfl la_13 rfl ci_4 rfl fl_4_24 ?_
  refine vv_iconst 20 hk dX4_pass_19 rfl ic_0 ?_
  refine vv_bipush 22 hk dX4_pass_20 rfl bp_15 ?_
  refine vv_copy 25 hk he dX4_pass_22 rfl ml_4_34 la_14 la_18 sd_14 sd_18 (Nat.le_of_ble_eq_true rfl) (fun σ3 => ?_)
  refine vv_iconst 26 hk dX4_pass_25 rfl ic_0 ?_
  refine vv_istore_n (i := 2) 27 [some (rf G 13), some (rf G 1), some (.int (0 : Int32))] hk dX4_pass_26 rfl rfl rfl rfl ?_
  refine vv_jn (fun t4 => (t4, 99, [some (rf G 13), some (rf G 1), none], [])) (fun t4 => ?_) (fun k99 hk99 => ?_)
  · skip
    refine vv_iconst 100 hk dX4_pass_99 rfl ic_0 ?_
    refine vv_istore_n (i := 2) 101 [some (rf G 13), some (rf G 1), some (.int (0 : Int32))] hk dX4_pass_100 rfl rfl rfl rfl ?_
    refine vv_jn (fun t5 => (t5, 133, [some (rf G 13), some (rf G 1), none], [])) (fun t5 => ?_) (fun k133 hk133 => ?_)
    · skip
      refine vv_iconst 134 hk dX4_pass_133 rfl ic_0 ?_
      refine vv_istore_n (i := 2) 135 [some (rf G 13), some (rf G 1), some (.int (0 : Int32))] hk dX4_pass_134 rfl rfl rfl rfl ?_
      refine vv_jn (fun t6 => (t6, 167, [some (rf G 13), some (rf G 1), none], [])) (fun t6 => ?_) (fun k167 hk167 => ?_)
      · skip
        refine vv_aload_n (i := 0) 168 hk dX4_pass_167 rfl rfl rfl ?_
        refine vv_dup 169 hk dX4_pass_168 rfl rfl ?_
        refine vv_getI 172 hk he dX4_pass_169 rfl la_13 rfl ci_4 rfl fl_4_27 sd_13 ?_
        refine vv_iconst 173 hk dX4_pass_172 rfl ic_1 ?_
        refine vv_iadd 174 hk dX4_pass_173 rfl ?_
        refine vv_putI 177 hk he dX4_pass_174 rfl la_13 rfl ci_4 rfl fl_4_27 sd_13 rfl rfl (fun σ7 => ?_)
        exact hret _ _ _ dX4_pass_177
      · skip
        refine vv_lp (fun t8 => (t8.2, 135, [some (rf G 13), some (rf G 1), some (.int t8.1)], [])) (fun kl135 hkl135 t8 => ?_) FU ((0 : Int32), t5)
        refine vv_iload_n (i := 2) 136 hk dX4_pass_135 rfl rfl rfl ?_
        refine vv_aload_n (i := 1) 137 hk dX4_pass_136 rfl rfl rfl ?_
        refine vv_getI 140 hk he dX4_pass_137 rfl la_1 rfl ci_5 rfl fl_4_63 sd_1 ?_
        refine vv_icmp_ge 167 143 hk dX4_pass_140 rfl rfl ?_ ?_
        · skip
          exact vv_le (ll_s rfl (ll_s rfl (ll_n ll_0))) (hk167 t8.2)
        · skip
          refine vv_aload_n (i := 0) 144 hk dX4_pass_143 rfl rfl rfl ?_
          refine vv_getI 147 hk he dX4_pass_144 rfl la_13 rfl ci_4 rfl fl_4_31 sd_13 ?_
          refine vv_iload_n (i := 2) 148 hk dX4_pass_147 rfl rfl rfl ?_
          refine vv_ishr 149 hk dX4_pass_148 rfl ?_
          refine vv_iconst 150 hk dX4_pass_149 rfl ic_1 ?_
          refine vv_iand 151 hk dX4_pass_150 rfl ?_
          refine vv_iconst 152 hk dX4_pass_151 rfl ic_1 ?_
          refine vv_jn (fun t9 => (t9, 161, [some (rf G 13), some (rf G 1), some (.int t8.1)], [])) (fun t9 => ?_) (fun k161 hk161 => ?_)
          · skip
            refine vv_iinc 164 (fun x10 => [some (rf G 13), some (rf G 1), some (.int x10)]) hk dX4_pass_161 rfl rfl ic_1 (fun _ => rfl) (fun x10 => ?_)
            refine vv_goto 135 hk dX4_pass_164 rfl ?_
            exact vv_le (ll_s rfl (ll_s rfl (ll_s rfl ll_0))) (hkl135 (x10, t9))
          · skip
            refine vv_icmp_ne 161 155 hk dX4_pass_152 rfl rfl ?_ ?_
            · skip
              refine vv_aload_n (i := 0) 156 hk dX4_pass_155 rfl rfl rfl ?_
              refine vv_aload_n (i := 1) 157 hk dX4_pass_156 rfl rfl rfl ?_
              refine vv_iload_n (i := 2) 158 hk dX4_pass_157 rfl rfl rfl ?_
              refine vv_invV (st := []) 161 hk he dX4_pass_158 rfl ml_4_102 cf_X4_giveBack la_13 ci_4 (c_X4_giveBack_13 G t8.1 t8.2) rfl rfl rfl rfl (fun σ11 => ?_)
              exact vv_le (ll_s rfl (ll_s rfl (ll_s rfl ll_0))) (hk161 σ11)
            · skip
              exact vv_le (ll_s rfl (ll_s rfl (ll_s rfl ll_0))) (hk161 t8.2)
    · skip
      refine vv_lp (fun t12 => (t12.2, 101, [some (rf G 13), some (rf G 1), some (.int t12.1)], [])) (fun kl101 hkl101 t12 => ?_) FU ((0 : Int32), t4)
      refine vv_iload_n (i := 2) 102 hk dX4_pass_101 rfl rfl rfl ?_
      refine vv_aload_n (i := 1) 103 hk dX4_pass_102 rfl rfl rfl ?_
      refine vv_getI 106 hk he dX4_pass_103 rfl la_1 rfl ci_5 rfl fl_4_63 sd_1 ?_
      refine vv_icmp_ge 133 109 hk dX4_pass_106 rfl rfl ?_ ?_
      · skip
        exact vv_le (ll_s rfl (ll_s rfl (ll_n ll_0))) (hk133 t12.2)
      · skip
        refine vv_aload_n (i := 1) 110 hk dX4_pass_109 rfl rfl rfl ?_
        refine vv_getI 113 hk he dX4_pass_110 rfl la_1 rfl ci_5 rfl fl_4_95 sd_1 ?_
        refine vv_iload_n (i := 2) 114 hk dX4_pass_113 rfl rfl rfl ?_
        refine vv_ishr 115 hk dX4_pass_114 rfl ?_
        refine vv_iconst 116 hk dX4_pass_115 rfl ic_1 ?_
        refine vv_iand 117 hk dX4_pass_116 rfl ?_
        refine vv_iconst 118 hk dX4_pass_117 rfl ic_1 ?_
        refine vv_jn (fun t13 => (t13, 127, [some (rf G 13), some (rf G 1), some (.int t12.1)], [])) (fun t13 => ?_) (fun k127 hk127 => ?_)
        · skip
          refine vv_iinc 130 (fun x14 => [some (rf G 13), some (rf G 1), some (.int x14)]) hk dX4_pass_127 rfl rfl ic_1 (fun _ => rfl) (fun x14 => ?_)
          refine vv_goto 101 hk dX4_pass_130 rfl ?_
          exact vv_le (ll_s rfl (ll_s rfl (ll_s rfl ll_0))) (hkl101 (x14, t13))
        · skip
          refine vv_icmp_ne 127 121 hk dX4_pass_118 rfl rfl ?_ ?_
          · skip
            refine vv_aload_n (i := 0) 122 hk dX4_pass_121 rfl rfl rfl ?_
            refine vv_aload_n (i := 1) 123 hk dX4_pass_122 rfl rfl rfl ?_
            refine vv_iload_n (i := 2) 124 hk dX4_pass_123 rfl rfl rfl ?_
            refine vv_invV (st := []) 127 hk he dX4_pass_124 rfl ml_4_98 cf_X4_draw la_13 ci_4 (c_X4_draw_13 G t12.1 t12.2) rfl rfl rfl rfl (fun σ15 => ?_)
            exact vv_le (ll_s rfl (ll_s rfl (ll_s rfl ll_0))) (hk127 σ15)
          · skip
            exact vv_le (ll_s rfl (ll_s rfl (ll_s rfl ll_0))) (hk127 t12.2)
  · skip
    refine vv_lp (fun t16 => (t16.2, 27, [some (rf G 13), some (rf G 1), some (.int t16.1)], [])) (fun kl27 hkl27 t16 => ?_) FU ((0 : Int32), σ3)
    refine vv_iload_n (i := 2) 28 hk dX4_pass_27 rfl rfl rfl ?_
    refine vv_aload_n (i := 1) 29 hk dX4_pass_28 rfl rfl rfl ?_
    refine vv_getI 32 hk he dX4_pass_29 rfl la_1 rfl ci_5 rfl fl_4_76 sd_1 ?_
    refine vv_icmp_ge 99 35 hk dX4_pass_32 rfl rfl ?_ ?_
    · skip
      exact vv_le (ll_s rfl (ll_s rfl (ll_n ll_0))) (hk99 t16.2)
    · skip
      refine vv_aload_n (i := 1) 36 hk dX4_pass_35 rfl rfl rfl ?_
      refine vv_getI 39 hk he dX4_pass_36 rfl la_1 rfl ci_5 rfl fl_4_79 sd_1 ?_
      refine vv_iload_n (i := 2) 40 hk dX4_pass_39 rfl rfl rfl ?_
      refine vv_ishr 41 hk dX4_pass_40 rfl ?_
      refine vv_iconst 42 hk dX4_pass_41 rfl ic_1 ?_
      refine vv_iand 43 hk dX4_pass_42 rfl ?_
      refine vv_iconst 44 hk dX4_pass_43 rfl ic_1 ?_
      refine vv_jn (fun t17 => (t17, 93, [some (rf G 13), some (rf G 1), some (.int t16.1)], [])) (fun t17 => ?_) (fun k93 hk93 => ?_)
      · skip
        refine vv_iinc 96 (fun x18 => [some (rf G 13), some (rf G 1), some (.int x18)]) hk dX4_pass_93 rfl rfl ic_1 (fun _ => rfl) (fun x18 => ?_)
        refine vv_goto 27 hk dX4_pass_96 rfl ?_
        exact vv_le (ll_s rfl (ll_s rfl (ll_s rfl ll_0))) (hkl27 (x18, t17))
      · skip
        refine vv_icmp_ne 93 47 hk dX4_pass_44 rfl rfl ?_ ?_
        · skip
          refine vv_aload_n (i := 0) 48 hk dX4_pass_47 rfl rfl rfl ?_
          refine vv_aload_n (i := 1) 49 hk dX4_pass_48 rfl rfl rfl ?_
          refine vv_aload_n (i := 1) 50 hk dX4_pass_49 rfl rfl rfl ?_
          refine vv_getR 53 hk dX4_pass_50 rfl la_1 rfl ci_5 rfl fl_4_82 ?_
          refine vv_iload_n (i := 2) 54 hk dX4_pass_53 rfl rfl rfl ?_
          refine vv_iald 55 hk he dX4_pass_54 rfl la_7 sd_7 (fun v19 => ?_)
          refine vv_aload_n (i := 1) 56 hk dX4_pass_55 rfl rfl rfl ?_
          refine vv_getR 59 hk dX4_pass_56 rfl la_1 rfl ci_5 rfl fl_4_85 ?_
          refine vv_iload_n (i := 2) 60 hk dX4_pass_59 rfl rfl rfl ?_
          refine vv_iald 61 hk he dX4_pass_60 rfl la_8 sd_8 (fun v20 => ?_)
          refine vv_aload_n (i := 1) 62 hk dX4_pass_61 rfl rfl rfl ?_
          refine vv_getR 65 hk dX4_pass_62 rfl la_1 rfl ci_5 rfl fl_4_88 ?_
          refine vv_iload_n (i := 2) 66 hk dX4_pass_65 rfl rfl rfl ?_
          refine vv_iald 67 hk he dX4_pass_66 rfl la_9 sd_9 (fun v21 => ?_)
          refine vv_invV (st := []) 70 hk he dX4_pass_67 rfl ml_4_91 cf_X4_flow la_13 ci_4 (c_X4_flow_13 G v19 v20 v21 t16.2) rfl rfl rfl rfl (fun σ22 => ?_)
          refine vv_aload_n (i := 0) 71 hk dX4_pass_70 rfl rfl rfl ?_
          refine vv_aload_n (i := 1) 72 hk dX4_pass_71 rfl rfl rfl ?_
          refine vv_aload_n (i := 1) 73 hk dX4_pass_72 rfl rfl rfl ?_
          refine vv_getR 76 hk dX4_pass_73 rfl la_1 rfl ci_5 rfl fl_4_85 ?_
          refine vv_iload_n (i := 2) 77 hk dX4_pass_76 rfl rfl rfl ?_
          refine vv_iald 78 hk he dX4_pass_77 rfl la_8 sd_8 (fun v23 => ?_)
          refine vv_aload_n (i := 1) 79 hk dX4_pass_78 rfl rfl rfl ?_
          refine vv_getR 82 hk dX4_pass_79 rfl la_1 rfl ci_5 rfl fl_4_82 ?_
          refine vv_iload_n (i := 2) 83 hk dX4_pass_82 rfl rfl rfl ?_
          refine vv_iald 84 hk he dX4_pass_83 rfl la_7 sd_7 (fun v24 => ?_)
          refine vv_aload_n (i := 1) 85 hk dX4_pass_84 rfl rfl rfl ?_
          refine vv_getR 88 hk dX4_pass_85 rfl la_1 rfl ci_5 rfl fl_4_88 ?_
          refine vv_iload_n (i := 2) 89 hk dX4_pass_88 rfl rfl rfl ?_
          refine vv_iald 90 hk he dX4_pass_89 rfl la_9 sd_9 (fun v25 => ?_)
          refine vv_invV (st := []) 93 hk he dX4_pass_90 rfl ml_4_91 cf_X4_flow la_13 ci_4 (c_X4_flow_13 G v23 v24 v25 σ22) rfl rfl rfl rfl (fun σ26 => ?_)
          exact vv_le (ll_s rfl (ll_s rfl (ll_s rfl ll_0))) (hk93 σ26)
        · skip
          exact vv_le (ll_s rfl (ll_s rfl (ll_s rfl ll_0))) (hk93 t16.2)
theorem c_X4_pass_19 (G : GT) (σ : Hp) : CtV G true yX4_pass cX4_pass 3 none 2 [(rf G 19), (rf G 1)] (f_X4_pass 19 σ) σ := by
  refine ctV (L0 := [some (rf G 19), some (rf G 1), none]) (by decide +kernel) rfl rfl rfl (fun κ hk he hret => ?_)
  have hk : KO G κ cX4_pass RX4 2 := hk
  refine vv_aload_n (i := 0) 1 hk dX4_pass_0 rfl rfl rfl ?_
  refine vv_aload_n (i := 1) 2 hk dX4_pass_1 rfl rfl rfl ?_
  refine vv_invV (st := []) 5 hk he dX4_pass_2 rfl ml_4_69 cf_X4_giveOff la_19 ci_4 (c_X4_giveOff_19 G σ) rfl rfl rfl rfl (fun σ1 => ?_)
  refine vv_aload_n (i := 0) 6 hk dX4_pass_5 rfl rfl rfl ?_
  refine vv_aload_n (i := 1) 7 hk dX4_pass_6 rfl rfl rfl ?_
  refine vv_invV (st := []) 10 hk he dX4_pass_7 rfl ml_4_73 cf_X4_leakIn la_19 ci_4 (c_X4_leakIn_19 G σ1) rfl rfl rfl rfl (fun σ2 => ?_)
  refine vv_aload_n (i := 0) 11 hk dX4_pass_10 rfl rfl rfl ?_
  refine vv_getR 14 hk dX4_pass_11 rfl la_19 rfl ci_4 rfl fl_4_9 ?_
  refine vv_iconst 15 hk dX4_pass_14 rfl ic_0 ?_
  refine vv_aload_n (i := 0) 16 hk dX4_pass_15 rfl rfl rfl ?_
  refine vv_getR 19 hk dX4_pass_16 rfl la_19 rfl ci_4 rfl fl_4_24 ?_
  refine vv_iconst 20 hk dX4_pass_19 rfl ic_0 ?_
  refine vv_bipush 22 hk dX4_pass_20 rfl bp_15 ?_
  refine vv_copy 25 hk he dX4_pass_22 rfl ml_4_34 la_20 la_24 sd_20 sd_24 (Nat.le_of_ble_eq_true rfl) (fun σ3 => ?_)
  refine vv_iconst 26 hk dX4_pass_25 rfl ic_0 ?_
  refine vv_istore_n (i := 2) 27 [some (rf G 19), some (rf G 1), some (.int (0 : Int32))] hk dX4_pass_26 rfl rfl rfl rfl ?_
  refine vv_jn (fun t4 => (t4, 99, [some (rf G 19), some (rf G 1), none], [])) (fun t4 => ?_) (fun k99 hk99 => ?_)
  · skip
    refine vv_iconst 100 hk dX4_pass_99 rfl ic_0 ?_
    refine vv_istore_n (i := 2) 101 [some (rf G 19), some (rf G 1), some (.int (0 : Int32))] hk dX4_pass_100 rfl rfl rfl rfl ?_
    refine vv_jn (fun t5 => (t5, 133, [some (rf G 19), some (rf G 1), none], [])) (fun t5 => ?_) (fun k133 hk133 => ?_)
    · skip
      refine vv_iconst 134 hk dX4_pass_133 rfl ic_0 ?_
      refine vv_istore_n (i := 2) 135 [some (rf G 19), some (rf G 1), some (.int (0 : Int32))] hk dX4_pass_134 rfl rfl rfl rfl ?_
      refine vv_jn (fun t6 => (t6, 167, [some (rf G 19), some (rf G 1), none], [])) (fun t6 => ?_) (fun k167 hk167 => ?_)
      · skip
        refine vv_aload_n (i := 0) 168 hk dX4_pass_167 rfl rfl rfl ?_
        refine vv_dup 169 hk dX4_pass_168 rfl rfl ?_
        refine vv_getI 172 hk he dX4_pass_169 rfl la_19 rfl ci_4 rfl fl_4_27 sd_19 ?_
        refine vv_iconst 173 hk dX4_pass_172 rfl ic_1 ?_
        refine vv_iadd 174 hk dX4_pass_173 rfl ?_
        refine vv_putI 177 hk he dX4_pass_174 rfl la_19 rfl ci_4 rfl fl_4_27 sd_19 rfl rfl (fun σ7 => ?_)
        exact hret _ _ _ dX4_pass_177
      · skip
        refine vv_lp (fun t8 => (t8.2, 135, [some (rf G 19), some (rf G 1), some (.int t8.1)], [])) (fun kl135 hkl135 t8 => ?_) FU ((0 : Int32), t5)
        refine vv_iload_n (i := 2) 136 hk dX4_pass_135 rfl rfl rfl ?_
        refine vv_aload_n (i := 1) 137 hk dX4_pass_136 rfl rfl rfl ?_
        refine vv_getI 140 hk he dX4_pass_137 rfl la_1 rfl ci_5 rfl fl_4_63 sd_1 ?_
        refine vv_icmp_ge 167 143 hk dX4_pass_140 rfl rfl ?_ ?_
        · skip
          exact vv_le (ll_s rfl (ll_s rfl (ll_n ll_0))) (hk167 t8.2)
        · skip
          refine vv_aload_n (i := 0) 144 hk dX4_pass_143 rfl rfl rfl ?_
          refine vv_getI 147 hk he dX4_pass_144 rfl la_19 rfl ci_4 rfl fl_4_31 sd_19 ?_
          refine vv_iload_n (i := 2) 148 hk dX4_pass_147 rfl rfl rfl ?_
          refine vv_ishr 149 hk dX4_pass_148 rfl ?_
          refine vv_iconst 150 hk dX4_pass_149 rfl ic_1 ?_
          refine vv_iand 151 hk dX4_pass_150 rfl ?_
          refine vv_iconst 152 hk dX4_pass_151 rfl ic_1 ?_
          refine vv_jn (fun t9 => (t9, 161, [some (rf G 19), some (rf G 1), some (.int t8.1)], [])) (fun t9 => ?_) (fun k161 hk161 => ?_)
          · skip
            refine vv_iinc 164 (fun x10 => [some (rf G 19), some (rf G 1), some (.int x10)]) hk dX4_pass_161 rfl rfl ic_1 (fun _ => rfl) (fun x10 => ?_)
            refine vv_goto 135 hk dX4_pass_164 rfl ?_
            exact vv_le (ll_s rfl (ll_s rfl (ll_s rfl ll_0))) (hkl135 (x10, t9))
          · skip
            refine vv_icmp_ne 161 155 hk dX4_pass_152 rfl rfl ?_ ?_
            · skip
              refine vv_aload_n (i := 0) 156 hk dX4_pass_155 rfl rfl rfl ?_
              refine vv_aload_n (i := 1) 157 hk dX4_pass_156 rfl rfl rfl ?_
              refine vv_iload_n (i := 2) 158 hk dX4_pass_157 rfl rfl rfl ?_
              refine vv_invV (st := []) 161 hk he dX4_pass_158 rfl ml_4_102 cf_X4_giveBack la_19 ci_4 (c_X4_giveBack_19 G t8.1 t8.2) rfl rfl rfl rfl (fun σ11 => ?_)
              exact vv_le (ll_s rfl (ll_s rfl (ll_s rfl ll_0))) (hk161 σ11)
            · skip
              exact vv_le (ll_s rfl (ll_s rfl (ll_s rfl ll_0))) (hk161 t8.2)
    · skip
      refine vv_lp (fun t12 => (t12.2, 101, [some (rf G 19), some (rf G 1), some (.int t12.1)], [])) (fun kl101 hkl101 t12 => ?_) FU ((0 : Int32), t4)
      refine vv_iload_n (i := 2) 102 hk dX4_pass_101 rfl rfl rfl ?_
      refine vv_aload_n (i := 1) 103 hk dX4_pass_102 rfl rfl rfl ?_
      refine vv_getI 106 hk he dX4_pass_103 rfl la_1 rfl ci_5 rfl fl_4_63 sd_1 ?_
      refine vv_icmp_ge 133 109 hk dX4_pass_106 rfl rfl ?_ ?_
      · skip
        exact vv_le (ll_s rfl (ll_s rfl (ll_n ll_0))) (hk133 t12.2)
      · skip
        refine vv_aload_n (i := 1) 110 hk dX4_pass_109 rfl rfl rfl ?_
        refine vv_getI 113 hk he dX4_pass_110 rfl la_1 rfl ci_5 rfl fl_4_95 sd_1 ?_
        refine vv_iload_n (i := 2) 114 hk dX4_pass_113 rfl rfl rfl ?_
        refine vv_ishr 115 hk dX4_pass_114 rfl ?_
        refine vv_iconst 116 hk dX4_pass_115 rfl ic_1 ?_
        refine vv_iand 117 hk dX4_pass_116 rfl ?_
        refine vv_iconst 118 hk dX4_pass_117 rfl ic_1 ?_
        refine vv_jn (fun t13 => (t13, 127, [some (rf G 19), some (rf G 1), some (.int t12.1)], [])) (fun t13 => ?_) (fun k127 hk127 => ?_)
        · skip
          refine vv_iinc 130 (fun x14 => [some (rf G 19), some (rf G 1), some (.int x14)]) hk dX4_pass_127 rfl rfl ic_1 (fun _ => rfl) (fun x14 => ?_)
          refine vv_goto 101 hk dX4_pass_130 rfl ?_
          exact vv_le (ll_s rfl (ll_s rfl (ll_s rfl ll_0))) (hkl101 (x14, t13))
        · skip
          refine vv_icmp_ne 127 121 hk dX4_pass_118 rfl rfl ?_ ?_
          · skip
            refine vv_aload_n (i := 0) 122 hk dX4_pass_121 rfl rfl rfl ?_
            refine vv_aload_n (i := 1) 123 hk dX4_pass_122 rfl rfl rfl ?_
            refine vv_iload_n (i := 2) 124 hk dX4_pass_123 rfl rfl rfl ?_
            refine vv_invV (st := []) 127 hk he dX4_pass_124 rfl ml_4_98 cf_X4_draw la_19 ci_4 (c_X4_draw_19 G t12.1 t12.2) rfl rfl rfl rfl (fun σ15 => ?_)
            exact vv_le (ll_s rfl (ll_s rfl (ll_s rfl ll_0))) (hk127 σ15)
          · skip
            exact vv_le (ll_s rfl (ll_s rfl (ll_s rfl ll_0))) (hk127 t12.2)
  · skip
    refine vv_lp (fun t16 => (t16.2, 27, [some (rf G 19), some (rf G 1), some (.int t16.1)], [])) (fun kl27 hkl27 t16 => ?_) FU ((0 : Int32), σ3)
    refine vv_iload_n (i := 2) 28 hk dX4_pass_27 rfl rfl rfl ?_
    refine vv_aload_n (i := 1) 29 hk dX4_pass_28 rfl rfl rfl ?_
    refine vv_getI 32 hk he dX4_pass_29 rfl la_1 rfl ci_5 rfl fl_4_76 sd_1 ?_
    refine vv_icmp_ge 99 35 hk dX4_pass_32 rfl rfl ?_ ?_
    · skip
      exact vv_le (ll_s rfl (ll_s rfl (ll_n ll_0))) (hk99 t16.2)
    · skip
      refine vv_aload_n (i := 1) 36 hk dX4_pass_35 rfl rfl rfl ?_
      refine vv_getI 39 hk he dX4_pass_36 rfl la_1 rfl ci_5 rfl fl_4_79 sd_1 ?_
      refine vv_iload_n (i := 2) 40 hk dX4_pass_39 rfl rfl rfl ?_
      refine vv_ishr 41 hk dX4_pass_40 rfl ?_
      refine vv_iconst 42 hk dX4_pass_41 rfl ic_1 ?_
      refine vv_iand 43 hk dX4_pass_42 rfl ?_
      refine vv_iconst 44 hk dX4_pass_43 rfl ic_1 ?_
      refine vv_jn (fun t17 => (t17, 93, [some (rf G 19), some (rf G 1), some (.int t16.1)], [])) (fun t17 => ?_) (fun k93 hk93 => ?_)
      · skip
        refine vv_iinc 96 (fun x18 => [some (rf G 19), some (rf G 1), some (.int x18)]) hk dX4_pass_93 rfl rfl ic_1 (fun _ => rfl) (fun x18 => ?_)
        refine vv_goto 27 hk dX4_pass_96 rfl ?_
        exact vv_le (ll_s rfl (ll_s rfl (ll_s rfl ll_0))) (hkl27 (x18, t17))
      · skip
        refine vv_icmp_ne 93 47 hk dX4_pass_44 rfl rfl ?_ ?_
        · skip
          refine vv_aload_n (i := 0) 48 hk dX4_pass_47 rfl rfl rfl ?_
          refine vv_aload_n (i := 1) 49 hk dX4_pass_48 rfl rfl rfl ?_
          refine vv_aload_n (i := 1) 50 hk dX4_pass_49 rfl rfl rfl ?_
          refine vv_getR 53 hk dX4_pass_50 rfl la_1 rfl ci_5 rfl fl_4_82 ?_
          refine vv_iload_n (i := 2) 54 hk dX4_pass_53 rfl rfl rfl ?_
          refine vv_iald 55 hk he dX4_pass_54 rfl la_7 sd_7 (fun v19 => ?_)
          refine vv_aload_n (i := 1) 56 hk dX4_pass_55 rfl rfl rfl ?_
          refine vv_getR 59 hk dX4_pass_56 rfl la_1 rfl ci_5 rfl fl_4_85 ?_
          refine vv_iload_n (i := 2) 60 hk dX4_pass_59 rfl rfl rfl ?_
          refine vv_iald 61 hk he dX4_pass_60 rfl la_8 sd_8 (fun v20 => ?_)
          refine vv_aload_n (i := 1) 62 hk dX4_pass_61 rfl rfl rfl ?_
          refine vv_getR 65 hk dX4_pass_62 rfl la_1 rfl ci_5 rfl fl_4_88 ?_
          refine vv_iload_n (i := 2) 66 hk dX4_pass_65 rfl rfl rfl ?_
          refine vv_iald 67 hk he dX4_pass_66 rfl la_9 sd_9 (fun v21 => ?_)
          refine vv_invV (st := []) 70 hk he dX4_pass_67 rfl ml_4_91 cf_X4_flow la_19 ci_4 (c_X4_flow_19 G v19 v20 v21 t16.2) rfl rfl rfl rfl (fun σ22 => ?_)
          refine vv_aload_n (i := 0) 71 hk dX4_pass_70 rfl rfl rfl ?_
          refine vv_aload_n (i := 1) 72 hk dX4_pass_71 rfl rfl rfl ?_
          refine vv_aload_n (i := 1) 73 hk dX4_pass_72 rfl rfl rfl ?_
          refine vv_getR 76 hk dX4_pass_73 rfl la_1 rfl ci_5 rfl fl_4_85 ?_
          refine vv_iload_n (i := 2) 77 hk dX4_pass_76 rfl rfl rfl ?_
          refine vv_iald 78 hk he dX4_pass_77 rfl la_8 sd_8 (fun v23 => ?_)
          refine vv_aload_n (i := 1) 79 hk dX4_pass_78 rfl rfl rfl ?_
          refine vv_getR 82 hk dX4_pass_79 rfl la_1 rfl ci_5 rfl fl_4_82 ?_
          refine vv_iload_n (i := 2) 83 hk dX4_pass_82 rfl rfl rfl ?_
          refine vv_iald 84 hk he dX4_pass_83 rfl la_7 sd_7 (fun v24 => ?_)
          refine vv_aload_n (i := 1) 85 hk dX4_pass_84 rfl rfl rfl ?_
          refine vv_getR 88 hk dX4_pass_85 rfl la_1 rfl ci_5 rfl fl_4_88 ?_
          refine vv_iload_n (i := 2) 89 hk dX4_pass_88 rfl rfl rfl ?_
          refine vv_iald 90 hk he dX4_pass_89 rfl la_9 sd_9 (fun v25 => ?_)
          refine vv_invV (st := []) 93 hk he dX4_pass_90 rfl ml_4_91 cf_X4_flow la_19 ci_4 (c_X4_flow_19 G v23 v24 v25 σ22) rfl rfl rfl rfl (fun σ26 => ?_)
          exact vv_le (ll_s rfl (ll_s rfl (ll_s rfl ll_0))) (hk93 σ26)
        · skip
          exact vv_le (ll_s rfl (ll_s rfl (ll_s rfl ll_0))) (hk93 t16.2)
theorem c_X3_hidden (G : GT) (σ : Hp) : CtI G true yX3_hidden cX3_hidden 5 (some .int) 0 [(rf G 67)] (rdI (f_X3_hidden σ) σ) σ := by
  refine ctIr (L0 := [some (rf G 67), none, none, none, none]) (by decide +kernel) rfl rfl rfl (fun κ hk he hret => ?_)
  have hk : KO G κ cX3_hidden RX3 0 := hk
  refine vv_iconst 1 hk dX3_hidden_0 rfl ic_0 ?_
  refine vv_istore_n (i := 1) 2 [some (rf G 67), some (.int (0 : Int32)), none, none, none] hk dX3_hidden_1 rfl rfl rfl rfl ?_
  refine vv_iconst 3 hk dX3_hidden_2 rfl ic_0 ?_
  refine vv_istore_n (i := 2) 4 [some (rf G 67), some (.int (0 : Int32)), some (.int (0 : Int32)), none, none] hk dX3_hidden_3 rfl rfl rfl rfl ?_
  refine vv_lp (fun t1 => (σ, 4, [some (rf G 67), some (.int t1.1), some (.int t1.2), none, none], [])) (fun kl4 hkl4 t1 => ?_) FU ((0 : Int32), (0 : Int32))
  refine vv_iload_n (i := 2) 5 hk dX3_hidden_4 rfl rfl rfl ?_
  refine vv_iconst 6 hk dX3_hidden_5 rfl ic_3 ?_
  refine vv_icmp_ge 78 9 hk dX3_hidden_6 rfl rfl ?_ ?_
  · skip
    refine vv_iload_n (i := 1) 79 hk dX3_hidden_78 rfl rfl rfl ?_
    exact hret _ _ _ dX3_hidden_79
  · skip
    refine vv_iconst 10 hk dX3_hidden_9 rfl ic_0 ?_
    refine vv_istore_n (i := 3) 11 [some (rf G 67), some (.int t1.1), some (.int t1.2), some (.int (0 : Int32)), none] hk dX3_hidden_10 rfl rfl rfl rfl ?_
    refine vv_iconst 12 hk dX3_hidden_11 rfl ic_0 ?_
    refine vv_istore 14 [some (rf G 67), some (.int t1.1), some (.int t1.2), some (.int (0 : Int32)), some (.int (0 : Int32))] hk dX3_hidden_12 rfl rfl rfl ?_
    refine vv_jn (fun t2 => (σ, 58, [some (rf G 67), some (.int t1.1), some (.int t1.2), some (.int t2), none], [])) (fun t2 => ?_) (fun k58 hk58 => ?_)
    · skip
      refine vv_iload_n (i := 1) 59 hk dX3_hidden_58 rfl rfl rfl ?_
      refine vv_iload_n (i := 3) 60 hk dX3_hidden_59 rfl rfl rfl ?_
      refine vv_jn (fun t3 => (σ, 70, [some (rf G 67), none, some (.int t1.2), none, none], [(.int t3), (.int t1.1)])) (fun t3 => ?_) (fun k70 hk70 => ?_)
      · skip
        refine vv_ior 71 hk dX3_hidden_70 rfl ?_
        refine vv_istore_nL (i := 1) 72 (fun x4 => [some (rf G 67), some (.int x4), some (.int t1.2), none, none]) hk dX3_hidden_71 rfl rfl rfl (fun _ => rfl) (fun x4 => ?_)
        refine vv_iinc 75 (fun x5 => [some (rf G 67), some (.int x4), some (.int x5), none, none]) hk dX3_hidden_72 rfl rfl ic_1 (fun _ => rfl) (fun x5 => ?_)
        refine vv_goto 4 hk dX3_hidden_75 rfl ?_
        exact vv_le (ll_s rfl (ll_s rfl (ll_s rfl (ll_n (ll_n ll_0))))) (hkl4 (x4, x5))
      · skip
        refine vv_if_eq 67 63 hk dX3_hidden_60 rfl rfl ?_ ?_
        · skip
          refine vv_iconst 68 hk dX3_hidden_67 rfl ic_1 ?_
          refine vv_iload_n (i := 2) 69 hk dX3_hidden_68 rfl rfl rfl ?_
          refine vv_ishl 70 hk dX3_hidden_69 rfl ?_
          exact vv_le (ll_s rfl (ll_n (ll_s rfl (ll_n (ll_n ll_0))))) (hk70 ((1 : Int32) <<< (t1.2 &&& 31)))
        · skip
          refine vv_iconst 64 hk dX3_hidden_63 rfl ic_0 ?_
          refine vv_goto 70 hk dX3_hidden_64 rfl ?_
          exact vv_le (ll_s rfl (ll_n (ll_s rfl (ll_n (ll_n ll_0))))) (hk70 (0 : Int32))
    · skip
      refine vv_lp (fun t6 => (σ, 14, [some (rf G 67), some (.int t1.1), some (.int t1.2), some (.int t6.1), some (.int t6.2)], [])) (fun kl14 hkl14 t6 => ?_) FU ((0 : Int32), (0 : Int32))
      refine vv_iload 16 hk dX3_hidden_14 rfl rfl ?_
      refine vv_iconst 17 hk dX3_hidden_16 rfl ic_3 ?_
      refine vv_icmp_ge 58 20 hk dX3_hidden_17 rfl rfl ?_ ?_
      · skip
        exact vv_le (ll_s rfl (ll_s rfl (ll_s rfl (ll_s rfl (ll_n ll_0))))) (hk58 t6.1)
      · skip
        refine vv_iload_n (i := 3) 21 hk dX3_hidden_20 rfl rfl rfl ?_
        refine vv_aload_n (i := 0) 22 hk dX3_hidden_21 rfl rfl rfl ?_
        refine vv_getR 25 hk dX3_hidden_22 rfl la_67 rfl ci_3 rfl fl_3_15 ?_
        refine vv_iload 27 hk dX3_hidden_25 rfl rfl ?_
        refine vv_iald 28 hk he dX3_hidden_27 rfl la_69 sd_69 (fun v7 => ?_)
        refine vv_jn (fun t8 => (σ, 50, [some (rf G 67), some (.int t1.1), some (.int t1.2), none, some (.int t6.2)], [(.int t8), (.int t6.1)])) (fun t8 => ?_) (fun k50 hk50 => ?_)
        · skip
          refine vv_ior 51 hk dX3_hidden_50 rfl ?_
          refine vv_istore_nL (i := 3) 52 (fun x9 => [some (rf G 67), some (.int t1.1), some (.int t1.2), some (.int x9), some (.int t6.2)]) hk dX3_hidden_51 rfl rfl rfl (fun _ => rfl) (fun x9 => ?_)
          refine vv_iinc 55 (fun x10 => [some (rf G 67), some (.int t1.1), some (.int t1.2), some (.int x9), some (.int x10)]) hk dX3_hidden_52 rfl rfl ic_1 (fun _ => rfl) (fun x10 => ?_)
          refine vv_goto 14 hk dX3_hidden_55 rfl ?_
          exact vv_le (ll_s rfl (ll_s rfl (ll_s rfl (ll_s rfl (ll_s rfl ll_0))))) (hkl14 (x9, x10))
        · skip
          refine vv_jn (fun t11 => (σ, 49, [some (rf G 67), some (.int t1.1), some (.int t1.2), none, some (.int t6.2)], [(.int t6.1)])) (fun t11 => ?_) (fun k49 hk49 => ?_)
          · skip
            refine vv_iconst 50 hk dX3_hidden_49 rfl ic_0 ?_
            exact vv_le (ll_s rfl (ll_s rfl (ll_s rfl (ll_n (ll_s rfl ll_0))))) (hk50 (0 : Int32))
          · skip
            refine vv_if_lt 49 31 hk dX3_hidden_28 rfl rfl ?_ ?_
            · skip
              exact vv_le (ll_s rfl (ll_s rfl (ll_s rfl (ll_n (ll_s rfl ll_0))))) (hk49 ())
            · skip
              refine vv_aload_n (i := 0) 32 hk dX3_hidden_31 rfl rfl rfl ?_
              refine vv_getR 35 hk dX3_hidden_32 rfl la_67 rfl ci_3 rfl fl_3_11 ?_
              refine vv_iload 37 hk dX3_hidden_35 rfl rfl ?_
              refine vv_iconst 38 hk dX3_hidden_37 rfl ic_3 ?_
              refine vv_imul 39 hk dX3_hidden_38 rfl ?_
              refine vv_iload_n (i := 2) 40 hk dX3_hidden_39 rfl rfl rfl ?_
              refine vv_iadd 41 hk dX3_hidden_40 rfl ?_
              refine vv_iald 42 hk he dX3_hidden_41 rfl la_68 sd_68 (fun v12 => ?_)
              refine vv_if_le 49 45 hk dX3_hidden_42 rfl rfl ?_ ?_
              · skip
                exact vv_le (ll_s rfl (ll_s rfl (ll_s rfl (ll_n (ll_s rfl ll_0))))) (hk49 ())
              · skip
                refine vv_iconst 46 hk dX3_hidden_45 rfl ic_1 ?_
                refine vv_goto 50 hk dX3_hidden_46 rfl ?_
                exact vv_le (ll_s rfl (ll_s rfl (ll_s rfl (ll_n (ll_s rfl ll_0))))) (hk50 (1 : Int32))
theorem c_J9_floorDiv_7cf53 (G : GT) (a1 : Int32) (a2 : Int32) (σ : Hp) : CtI G true yJ9_floorDiv_7cf53 cJ9_floorDiv_7cf53 3 (some .int) 0 [(.int a1), (.int a2)] (rdI (f_J9_floorDiv_7cf53 a1 a2) σ) σ := by
  refine ctIrF (L0 := [some (.int a1), some (.int a2), none]) (by decide +kernel) rfl rfl rfl (fun κ hk he hret => ?_)
  have hk : KO G κ cJ9_floorDiv_7cf53 RJ9 0 := hk
  refine vv_iload_n (i := 0) 1 hk dJ9_floorDiv_7cf53_0 rfl rfl rfl ?_
  refine vv_iload_n (i := 1) 2 hk dJ9_floorDiv_7cf53_1 rfl rfl rfl ?_
  refine vv_idiv 3 hk dJ9_floorDiv_7cf53_2 rfl ?_
  refine vv_istore_nL (i := 2) 4 (fun x1 => [some (.int a1), some (.int a2), some (.int x1)]) hk dJ9_floorDiv_7cf53_3 rfl rfl rfl (fun _ => rfl) (fun x1 => ?_)
  refine vv_iload_n (i := 0) 5 hk dJ9_floorDiv_7cf53_4 rfl rfl rfl ?_
  refine vv_iload_n (i := 1) 6 hk dJ9_floorDiv_7cf53_5 rfl rfl rfl ?_
  refine vv_ixor 7 hk dJ9_floorDiv_7cf53_6 rfl ?_
  refine vv_if_ge 21 10 hk dJ9_floorDiv_7cf53_7 rfl rfl ?_ ?_
  · skip
    refine vv_iload_n (i := 2) 22 hk dJ9_floorDiv_7cf53_21 rfl rfl rfl ?_
    exact hret _ _ _ dJ9_floorDiv_7cf53_22
  · skip
    refine vv_iload_n (i := 2) 11 hk dJ9_floorDiv_7cf53_10 rfl rfl rfl ?_
    refine vv_iload_n (i := 1) 12 hk dJ9_floorDiv_7cf53_11 rfl rfl rfl ?_
    refine vv_imul 13 hk dJ9_floorDiv_7cf53_12 rfl ?_
    refine vv_iload_n (i := 0) 14 hk dJ9_floorDiv_7cf53_13 rfl rfl rfl ?_
    refine vv_icmp_eq 21 17 hk dJ9_floorDiv_7cf53_14 rfl rfl ?_ ?_
    · skip
      refine vv_iload_n (i := 2) 22 hk dJ9_floorDiv_7cf53_21 rfl rfl rfl ?_
      exact hret _ _ _ dJ9_floorDiv_7cf53_22
    · skip
      refine vv_iload_n (i := 2) 18 hk dJ9_floorDiv_7cf53_17 rfl rfl rfl ?_
      refine vv_iconst 19 hk dJ9_floorDiv_7cf53_18 rfl ic_1 ?_
      refine vv_isub 20 hk dJ9_floorDiv_7cf53_19 rfl ?_
      exact hret _ _ _ dJ9_floorDiv_7cf53_20
theorem c_X3_narrow (G : GT) (a1 : Int32) (a2 : Int32) (a3 : Int32) (σ : Hp) : CtV G true yX3_narrow cX3_narrow 4 none 1 [(rf G 67), (.int a1), (.int a2), (.int a3)] (f_X3_narrow a1 a2 a3 σ) σ := by
  refine ctV (L0 := [some (rf G 67), some (.int a1), some (.int a2), some (.int a3)]) (by decide +kernel) rfl rfl rfl (fun κ hk he hret => ?_)
  have hk : KO G κ cX3_narrow RX3 1 := hk
  refine vv_iload_n (i := 1) 1 hk dX3_narrow_0 rfl rfl rfl ?_
  refine vv_if_le 41 4 hk dX3_narrow_1 rfl rfl ?_ ?_
  · skip
    refine vv_iload_n (i := 2) 42 hk dX3_narrow_41 rfl rfl rfl ?_
    refine vv_jn (fun t1 => (σ, 49, [some (rf G 67), none, none, none], [])) (fun t1 => ?_) (fun k49 hk49 => ?_)
    · skip
      refine vv_aload_n (i := 0) 50 hk dX3_narrow_49 rfl rfl rfl ?_
      refine vv_iconst 51 hk dX3_narrow_50 rfl ic_m1 ?_
      refine vv_putI 54 hk he dX3_narrow_51 rfl la_67 rfl ci_3 rfl fl_3_54 sd_67 rfl rfl (fun σ2 => ?_)
      exact hret _ _ _ dX3_narrow_54
    · skip
      refine vv_if_gt 49 45 hk dX3_narrow_42 rfl rfl ?_ ?_
      · skip
        exact vv_le (ll_s rfl (ll_n (ll_n (ll_n ll_0)))) (hk49 ())
      · skip
        refine vv_iload_n (i := 3) 46 hk dX3_narrow_45 rfl rfl rfl ?_
        refine vv_if_ge 54 49 hk dX3_narrow_46 rfl rfl ?_ ?_
        · skip
          exact hret _ _ _ dX3_narrow_54
        · skip
          exact vv_le (ll_s rfl (ll_n (ll_n (ll_n ll_0)))) (hk49 ())
  · skip
    refine vv_aload_n (i := 0) 5 hk dX3_narrow_4 rfl rfl rfl ?_
    refine vv_aload_n (i := 0) 6 hk dX3_narrow_5 rfl rfl rfl ?_
    refine vv_getI 9 hk he dX3_narrow_6 rfl la_67 rfl ci_3 rfl fl_3_50 sd_67 ?_
    refine vv_iload_n (i := 2) 10 hk dX3_narrow_9 rfl rfl rfl ?_
    refine vv_ineg 11 hk dX3_narrow_10 rfl ?_
    refine vv_iload_n (i := 1) 12 hk dX3_narrow_11 rfl rfl rfl ?_
    refine vv_staIr (st := [(.int (σ.1 67 4)), (rf G 67)]) 15 hk he dX3_narrow_12 rfl ml_3_69 sf_J9_floorDiv_7cf53 (c_J9_floorDiv_7cf53 G (-a2) a1 σ) rfl rfl rfl rfl (fun v3 => ?_)
    refine vv_ineg 16 hk dX3_narrow_15 rfl ?_
    refine vv_mmax 19 hk dX3_narrow_16 rfl ml_3_63 rfl ?_
    refine vv_putI 22 hk he dX3_narrow_19 rfl la_67 rfl ci_3 rfl fl_3_50 sd_67 rfl rfl (fun σ4 => ?_)
    refine vv_aload_n (i := 0) 23 hk dX3_narrow_22 rfl rfl rfl ?_
    refine vv_aload_n (i := 0) 24 hk dX3_narrow_23 rfl rfl rfl ?_
    refine vv_getI 27 hk he dX3_narrow_24 rfl la_67 rfl ci_3 rfl fl_3_54 sd_67 ?_
    refine vv_iload_n (i := 3) 28 hk dX3_narrow_27 rfl rfl rfl ?_
    refine vv_iload_n (i := 1) 29 hk dX3_narrow_28 rfl rfl rfl ?_
    refine vv_staIr (st := [(.int (σ4.1 67 5)), (rf G 67)]) 32 hk he dX3_narrow_29 rfl ml_3_69 sf_J9_floorDiv_7cf53 (c_J9_floorDiv_7cf53 G a3 a1 σ4) rfl rfl rfl rfl (fun v5 => ?_)
    refine vv_mmin 35 hk dX3_narrow_32 rfl ml_3_60 rfl ?_
    refine vv_putI 38 hk he dX3_narrow_35 rfl la_67 rfl ci_3 rfl fl_3_54 sd_67 rfl rfl (fun σ6 => ?_)
    refine vv_goto 54 hk dX3_narrow_38 rfl ?_
    exact hret _ _ _ dX3_narrow_54
theorem c_X3_bound (G : GT) (a1 : Int32) (a2 : Int32) (a3 : Int32) (σ : Hp) : CtV G true yX3_bound cX3_bound 8 none 2 [(rf G 67), (.int a1), (.int a2), (.int a3)] (f_X3_bound a1 a2 a3 σ) σ := by
  refine ctV (L0 := [some (rf G 67), some (.int a1), some (.int a2), some (.int a3), none, none, none, none]) (by decide +kernel) rfl rfl rfl (fun κ hk he hret => ?_)
  have hk : KO G κ cX3_bound RX3 2 := hk
  refine vv_aload_n (i := 0) 1 hk dX3_bound_0 rfl rfl rfl ?_
  refine vv_iconst 2 hk dX3_bound_1 rfl ic_0 ?_
  refine vv_putI 5 hk he dX3_bound_2 rfl la_67 rfl ci_3 rfl fl_3_50 sd_67 rfl rfl (fun σ1 => ?_)
  refine vv_aload_n (i := 0) 6 hk dX3_bound_5 rfl rfl rfl ?_
  refine vv_bipush 8 hk dX3_bound_6 rfl bp_40 ?_
  refine vv_putI 11 hk he dX3_bound_8 rfl la_67 rfl ci_3 rfl fl_3_54 sd_67 rfl rfl (fun σ2 => ?_)
  refine vv_iconst 12 hk dX3_bound_11 rfl ic_0 ?_
  refine vv_istore 14 [some (rf G 67), some (.int a1), some (.int a2), some (.int a3), some (.int (0 : Int32)), none, none, none] hk dX3_bound_12 rfl rfl rfl ?_
  refine vv_lp (fun t3 => (t3.2, 14, [some (rf G 67), some (.int a1), some (.int a2), some (.int a3), some (.int t3.1), none, none, none], [])) (fun kl14 hkl14 t3 => ?_) FU ((0 : Int32), σ2)
  refine vv_iload 16 hk dX3_bound_14 rfl rfl ?_
  refine vv_iconst 17 hk dX3_bound_16 rfl ic_3 ?_
  refine vv_icmp_ge 119 20 hk dX3_bound_17 rfl rfl ?_ ?_
  · skip
    exact hret _ _ _ dX3_bound_119
  · skip
    refine vv_aload_n (i := 0) 21 hk dX3_bound_20 rfl rfl rfl ?_
    refine vv_getR 24 hk dX3_bound_21 rfl la_67 rfl ci_3 rfl fl_3_15 ?_
    refine vv_iload 26 hk dX3_bound_24 rfl rfl ?_
    refine vv_iald 27 hk he dX3_bound_26 rfl la_69 sd_69 (fun v4 => ?_)
    refine vv_jn (fun t5 => (t5, 113, [some (rf G 67), some (.int a1), some (.int a2), some (.int a3), some (.int t3.1), none, none, none], [])) (fun t5 => ?_) (fun k113 hk113 => ?_)
    · skip
      refine vv_iinc 116 (fun x6 => [some (rf G 67), some (.int a1), some (.int a2), some (.int a3), some (.int x6), none, none, none]) hk dX3_bound_113 rfl rfl ic_1 (fun _ => rfl) (fun x6 => ?_)
      refine vv_goto 14 hk dX3_bound_116 rfl ?_
      exact vv_le (ll_s rfl (ll_s rfl (ll_s rfl (ll_s rfl (ll_s rfl (ll_n (ll_n (ll_n ll_0)))))))) (hkl14 (x6, t5))
    · skip
      refine vv_if_lt 113 30 hk dX3_bound_27 rfl rfl ?_ ?_
      · skip
        exact vv_le (ll_s rfl (ll_s rfl (ll_s rfl (ll_s rfl (ll_s rfl (ll_n (ll_n (ll_n ll_0)))))))) (hk113 t3.2)
      · skip
        refine vv_aload_n (i := 0) 31 hk dX3_bound_30 rfl rfl rfl ?_
        refine vv_getR 34 hk dX3_bound_31 rfl la_67 rfl ci_3 rfl fl_3_11 ?_
        refine vv_iload 36 hk dX3_bound_34 rfl rfl ?_
        refine vv_iconst 37 hk dX3_bound_36 rfl ic_3 ?_
        refine vv_imul 38 hk dX3_bound_37 rfl ?_
        refine vv_iald 39 hk he dX3_bound_38 rfl la_68 sd_68 (fun v7 => ?_)
        refine vv_iload_n (i := 2) 40 hk dX3_bound_39 rfl rfl rfl ?_
        refine vv_imul 41 hk dX3_bound_40 rfl ?_
        refine vv_aload_n (i := 0) 42 hk dX3_bound_41 rfl rfl rfl ?_
        refine vv_getR 45 hk dX3_bound_42 rfl la_67 rfl ci_3 rfl fl_3_11 ?_
        refine vv_iload 47 hk dX3_bound_45 rfl rfl ?_
        refine vv_iconst 48 hk dX3_bound_47 rfl ic_3 ?_
        refine vv_imul 49 hk dX3_bound_48 rfl ?_
        refine vv_iconst 50 hk dX3_bound_49 rfl ic_1 ?_
        refine vv_iadd 51 hk dX3_bound_50 rfl ?_
        refine vv_iald 52 hk he dX3_bound_51 rfl la_68 sd_68 (fun v8 => ?_)
        refine vv_iload_n (i := 3) 53 hk dX3_bound_52 rfl rfl rfl ?_
        refine vv_imul 54 hk dX3_bound_53 rfl ?_
        refine vv_iadd 55 hk dX3_bound_54 rfl ?_
        refine vv_istoreL 57 (fun x9 => [some (rf G 67), some (.int a1), some (.int a2), some (.int a3), some (.int t3.1), some (.int x9), none, none]) hk dX3_bound_55 rfl rfl (fun _ => rfl) (fun x9 => ?_)
        refine vv_bipush 59 hk dX3_bound_57 rfl bp_10 ?_
        refine vv_aload_n (i := 0) 60 hk dX3_bound_59 rfl rfl rfl ?_
        refine vv_getR 63 hk dX3_bound_60 rfl la_67 rfl ci_3 rfl fl_3_15 ?_
        refine vv_iload 65 hk dX3_bound_63 rfl rfl ?_
        refine vv_iald 66 hk he dX3_bound_65 rfl la_69 sd_69 (fun v10 => ?_)
        refine vv_iload_n (i := 1) 67 hk dX3_bound_66 rfl rfl rfl ?_
        refine vv_isub 68 hk dX3_bound_67 rfl ?_
        refine vv_imul 69 hk dX3_bound_68 rfl ?_
        refine vv_iload 71 hk dX3_bound_69 rfl rfl ?_
        refine vv_isub 72 hk dX3_bound_71 rfl ?_
        refine vv_istoreL 74 (fun x11 => [some (rf G 67), some (.int a1), some (.int a2), some (.int a3), some (.int t3.1), some (.int x9), some (.int x11), none]) hk dX3_bound_72 rfl rfl (fun _ => rfl) (fun x11 => ?_)
        refine vv_bipush 76 hk dX3_bound_74 rfl bp_10 ?_
        refine vv_aload_n (i := 0) 77 hk dX3_bound_76 rfl rfl rfl ?_
        refine vv_getR 80 hk dX3_bound_77 rfl la_67 rfl ci_3 rfl fl_3_15 ?_
        refine vv_iload 82 hk dX3_bound_80 rfl rfl ?_
        refine vv_iald 83 hk he dX3_bound_82 rfl la_69 sd_69 (fun v12 => ?_)
        refine vv_iload_n (i := 1) 84 hk dX3_bound_83 rfl rfl rfl ?_
        refine vv_iadd 85 hk dX3_bound_84 rfl ?_
        refine vv_imul 86 hk dX3_bound_85 rfl ?_
        refine vv_bipush 88 hk dX3_bound_86 rfl bp_9 ?_
        refine vv_iadd 89 hk dX3_bound_88 rfl ?_
        refine vv_iload 91 hk dX3_bound_89 rfl rfl ?_
        refine vv_isub 92 hk dX3_bound_91 rfl ?_
        refine vv_istoreL 94 (fun x13 => [some (rf G 67), some (.int a1), some (.int a2), some (.int a3), some (.int t3.1), some (.int x9), some (.int x11), some (.int x13)]) hk dX3_bound_92 rfl rfl (fun _ => rfl) (fun x13 => ?_)
        refine vv_aload_n (i := 0) 95 hk dX3_bound_94 rfl rfl rfl ?_
        refine vv_aload_n (i := 0) 96 hk dX3_bound_95 rfl rfl rfl ?_
        refine vv_getR 99 hk dX3_bound_96 rfl la_67 rfl ci_3 rfl fl_3_11 ?_
        refine vv_iload 101 hk dX3_bound_99 rfl rfl ?_
        refine vv_iconst 102 hk dX3_bound_101 rfl ic_3 ?_
        refine vv_imul 103 hk dX3_bound_102 rfl ?_
        refine vv_iconst 104 hk dX3_bound_103 rfl ic_2 ?_
        refine vv_iadd 105 hk dX3_bound_104 rfl ?_
        refine vv_iald 106 hk he dX3_bound_105 rfl la_68 sd_68 (fun v14 => ?_)
        refine vv_iload 108 hk dX3_bound_106 rfl rfl ?_
        refine vv_iload 110 hk dX3_bound_108 rfl rfl ?_
        refine vv_invV (st := []) 113 hk he dX3_bound_110 rfl ml_3_66 cf_X3_narrow la_67 ci_3 (c_X3_narrow G v14 x11 x13 t3.2) rfl rfl rfl rfl (fun σ15 => ?_)
        exact vv_le (ll_s rfl (ll_s rfl (ll_s rfl (ll_s rfl (ll_s rfl (ll_n (ll_n (ll_n ll_0)))))))) (hk113 σ15)
theorem c_X3_note (G : GT) (a1 : Int32) (a2 : Int32) (a3 : Int32) (σ : Hp) : CtV G true yX3_note cX3_note 4 none 0 [(rf G 67), (.int a1), (.int a2), (.int a3)] (f_X3_note a1 a2 a3 σ) σ := by
  refine ctV (L0 := [some (rf G 67), some (.int a1), some (.int a2), some (.int a3)]) (by decide +kernel) rfl rfl rfl (fun κ hk he hret => ?_)
  have hk : KO G κ cX3_note RX3 0 := hk
  refine vv_aload_n (i := 0) 1 hk dX3_note_0 rfl rfl rfl ?_
  refine vv_getR 4 hk dX3_note_1 rfl la_67 rfl ci_3 rfl fl_3_18 ?_
  refine vv_iload_n (i := 1) 5 hk dX3_note_4 rfl rfl rfl ?_
  refine vv_aload_n (i := 0) 6 hk dX3_note_5 rfl rfl rfl ?_
  refine vv_getR 9 hk dX3_note_6 rfl la_67 rfl ci_3 rfl fl_3_18 ?_
  refine vv_iload_n (i := 1) 10 hk dX3_note_9 rfl rfl rfl ?_
  refine vv_iald 11 hk he dX3_note_10 rfl la_70 sd_70 (fun v1 => ?_)
  refine vv_iload_n (i := 2) 12 hk dX3_note_11 rfl rfl rfl ?_
  refine vv_mmin 15 hk dX3_note_12 rfl ml_3_60 rfl ?_
  refine vv_iast 16 hk he dX3_note_15 rfl la_70 sd_70 (fun σ2 => ?_)
  refine vv_aload_n (i := 0) 17 hk dX3_note_16 rfl rfl rfl ?_
  refine vv_getR 20 hk dX3_note_17 rfl la_67 rfl ci_3 rfl fl_3_21 ?_
  refine vv_iload_n (i := 1) 21 hk dX3_note_20 rfl rfl rfl ?_
  refine vv_aload_n (i := 0) 22 hk dX3_note_21 rfl rfl rfl ?_
  refine vv_getR 25 hk dX3_note_22 rfl la_67 rfl ci_3 rfl fl_3_21 ?_
  refine vv_iload_n (i := 1) 26 hk dX3_note_25 rfl rfl rfl ?_
  refine vv_iald 27 hk he dX3_note_26 rfl la_71 sd_71 (fun v3 => ?_)
  refine vv_iload_n (i := 3) 28 hk dX3_note_27 rfl rfl rfl ?_
  refine vv_mmax 31 hk dX3_note_28 rfl ml_3_63 rfl ?_
  refine vv_iast 32 hk he dX3_note_31 rfl la_71 sd_71 (fun σ4 => ?_)
  exact hret _ _ _ dX3_note_32
theorem c_X3_possible (G : GT) (a1 : Int32) (a2 : Int32) (σ : Hp) : CtI G true yX3_possible cX3_possible 6 (some .int) 3 [(rf G 67), (.int a1), (.int a2)] (f_X3_possible a1 a2 σ) σ := by
  refine ctI (L0 := [some (rf G 67), some (.int a1), some (.int a2), none, none, none]) (by decide +kernel) rfl rfl rfl (fun κ hk he hret => ?_)
  have hk : KO G κ cX3_possible RX3 3 := hk
  refine vv_aload_n (i := 0) 1 hk dX3_possible_0 rfl rfl rfl ?_
  refine vv_getR 4 hk dX3_possible_1 rfl la_67 rfl ci_3 rfl fl_3_18 ?_
  refine vv_bipush 6 hk dX3_possible_4 rfl bp_41 ?_
  refine vv_staV (st := []) 9 hk he dX3_possible_6 rfl ml_3_24 sf_J7_fill_53178 (c_J7_fill_53178 G 70 3 (41 : Int32) σ la_70 sd_70) rfl rfl rfl rfl (fun σ1 => ?_)
  refine vv_aload_n (i := 0) 10 hk dX3_possible_9 rfl rfl rfl ?_
  refine vv_getR 13 hk dX3_possible_10 rfl la_67 rfl ci_3 rfl fl_3_21 ?_
  refine vv_bipush 15 hk dX3_possible_13 rfl bp_m9 ?_
  refine vv_staV (st := []) 18 hk he dX3_possible_15 rfl ml_3_24 sf_J7_fill_53178 (c_J7_fill_53178 G 71 3 (-9 : Int32) σ1 la_71 sd_71) rfl rfl rfl rfl (fun σ2 => ?_)
  refine vv_iconst 19 hk dX3_possible_18 rfl ic_0 ?_
  refine vv_istore_n (i := 3) 20 [some (rf G 67), some (.int a1), some (.int a2), some (.int (0 : Int32)), none, none] hk dX3_possible_19 rfl rfl rfl rfl ?_
  refine vv_iconst 21 hk dX3_possible_20 rfl ic_0 ?_
  refine vv_istore 23 [some (rf G 67), some (.int a1), some (.int a2), some (.int (0 : Int32)), some (.int (0 : Int32)), none] hk dX3_possible_21 rfl rfl rfl ?_
  refine vv_jn (fun t3 => (t3.2, 117, [some (rf G 67), none, some (.int a2), some (.int t3.1), none, none], [])) (fun t3 => ?_) (fun k117 hk117 => ?_)
  · skip
    refine vv_iload_n (i := 2) 118 hk dX3_possible_117 rfl rfl rfl ?_
    refine vv_if_ne 123 121 hk dX3_possible_118 rfl rfl ?_ ?_
    · skip
      refine vv_iload_n (i := 3) 122 hk dX3_possible_121 rfl rfl rfl ?_
      exact hret _ _ _ _ dX3_possible_122
    · skip
      refine vv_iload_n (i := 2) 124 hk dX3_possible_123 rfl rfl rfl ?_
      refine vv_iconst 125 hk dX3_possible_124 rfl ic_1 ?_
      refine vv_jn (fun t4 => (t3.2, 151, [some (rf G 67), none, some (.int a2), none, none, none], [])) (fun t4 => ?_) (fun k151 hk151 => ?_)
      · skip
        refine vv_iload_n (i := 2) 152 hk dX3_possible_151 rfl rfl rfl ?_
        refine vv_iconst 153 hk dX3_possible_152 rfl ic_3 ?_
        refine vv_jn (fun t5 => (t3.2, 177, [some (rf G 67), none, none, none, none, none], [(.int t5)])) (fun t5 => ?_) (fun k177 hk177 => ?_)
        · skip
          exact hret _ _ _ _ dX3_possible_177
        · skip
          refine vv_jn (fun t6 => (t3.2, 175, [some (rf G 67), none, none, none, none, none], [])) (fun t6 => ?_) (fun k175 hk175 => ?_)
          · skip
            refine vv_bipush 177 hk dX3_possible_175 rfl bp_m9 ?_
            exact vv_le (ll_s rfl (ll_n (ll_n (ll_n (ll_n (ll_n ll_0)))))) (hk177 (-9 : Int32))
          · skip
            refine vv_icmp_le 175 156 hk dX3_possible_153 rfl rfl ?_ ?_
            · skip
              exact vv_le (ll_s rfl (ll_n (ll_n (ll_n (ll_n (ll_n ll_0)))))) (hk175 ())
            · skip
              refine vv_iload_n (i := 2) 157 hk dX3_possible_156 rfl rfl rfl ?_
              refine vv_bipush 159 hk dX3_possible_157 rfl bp_6 ?_
              refine vv_icmp_gt 175 162 hk dX3_possible_159 rfl rfl ?_ ?_
              · skip
                exact vv_le (ll_s rfl (ll_n (ll_n (ll_n (ll_n (ll_n ll_0)))))) (hk175 ())
              · skip
                refine vv_aload_n (i := 0) 163 hk dX3_possible_162 rfl rfl rfl ?_
                refine vv_getR 166 hk dX3_possible_163 rfl la_67 rfl ci_3 rfl fl_3_21 ?_
                refine vv_iload_n (i := 2) 167 hk dX3_possible_166 rfl rfl rfl ?_
                refine vv_iconst 168 hk dX3_possible_167 rfl ic_1 ?_
                refine vv_isub 169 hk dX3_possible_168 rfl ?_
                refine vv_iconst 170 hk dX3_possible_169 rfl ic_3 ?_
                refine vv_isub 171 hk dX3_possible_170 rfl ?_
                refine vv_iald 172 hk he dX3_possible_171 rfl la_71 sd_71 (fun v7 => ?_)
                refine vv_goto 177 hk dX3_possible_172 rfl ?_
                exact vv_le (ll_s rfl (ll_n (ll_n (ll_n (ll_n (ll_n ll_0)))))) (hk177 v7)
      · skip
        refine vv_icmp_lt 151 128 hk dX3_possible_125 rfl rfl ?_ ?_
        · skip
          exact vv_le (ll_s rfl (ll_n (ll_s rfl (ll_n (ll_n (ll_n ll_0)))))) (hk151 ())
        · skip
          refine vv_iload_n (i := 2) 129 hk dX3_possible_128 rfl rfl rfl ?_
          refine vv_iconst 130 hk dX3_possible_129 rfl ic_3 ?_
          refine vv_icmp_gt 151 133 hk dX3_possible_130 rfl rfl ?_ ?_
          · skip
            exact vv_le (ll_s rfl (ll_n (ll_s rfl (ll_n (ll_n (ll_n ll_0)))))) (hk151 ())
          · skip
            refine vv_iload_n (i := 3) 134 hk dX3_possible_133 rfl rfl rfl ?_
            refine vv_jn (fun t8 => (t3.2, 150, [some (rf G 67), none, none, none, none, none], [(.int t8)])) (fun t8 => ?_) (fun k150 hk150 => ?_)
            · skip
              exact hret _ _ _ _ dX3_possible_150
            · skip
              refine vv_if_ne 142 137 hk dX3_possible_134 rfl rfl ?_ ?_
              · skip
                refine vv_bipush 139 hk dX3_possible_137 rfl bp_m9 ?_
                refine vv_goto 150 hk dX3_possible_139 rfl ?_
                exact vv_le (ll_s rfl (ll_n (ll_n (ll_n (ll_n (ll_n ll_0)))))) (hk150 (-9 : Int32))
              · skip
                refine vv_aload_n (i := 0) 143 hk dX3_possible_142 rfl rfl rfl ?_
                refine vv_getR 146 hk dX3_possible_143 rfl la_67 rfl ci_3 rfl fl_3_18 ?_
                refine vv_iload_n (i := 2) 147 hk dX3_possible_146 rfl rfl rfl ?_
                refine vv_iconst 148 hk dX3_possible_147 rfl ic_1 ?_
                refine vv_isub 149 hk dX3_possible_148 rfl ?_
                refine vv_iald 150 hk he dX3_possible_149 rfl la_70 sd_70 (fun v9 => ?_)
                exact vv_le (ll_s rfl (ll_n (ll_n (ll_n (ll_n (ll_n ll_0)))))) (hk150 v9)
  · skip
    refine vv_lp (fun t10 => (t10.2.2, 23, [some (rf G 67), some (.int a1), some (.int a2), some (.int t10.1), some (.int t10.2.1), none], [])) (fun kl23 hkl23 t10 => ?_) FU ((0 : Int32), (0 : Int32), σ2)
    refine vv_iload 25 hk dX3_possible_23 rfl rfl ?_
    refine vv_bipush 27 hk dX3_possible_25 rfl bp_40 ?_
    refine vv_icmp_gt 117 30 hk dX3_possible_27 rfl rfl ?_ ?_
    · skip
      exact vv_le (ll_s rfl (ll_n (ll_s rfl (ll_s rfl (ll_n (ll_n ll_0)))))) (hk117 (t10.1, t10.2.2))
    · skip
      refine vv_iconst 31 hk dX3_possible_30 rfl ic_0 ?_
      refine vv_istore 33 [some (rf G 67), some (.int a1), some (.int a2), some (.int t10.1), some (.int t10.2.1), some (.int (0 : Int32))] hk dX3_possible_31 rfl rfl rfl ?_
      refine vv_jn (fun t11 => (t11.2, 111, [some (rf G 67), some (.int a1), some (.int a2), some (.int t11.1), some (.int t10.2.1), none], [])) (fun t11 => ?_) (fun k111 hk111 => ?_)
      · skip
        refine vv_iinc 114 (fun x12 => [some (rf G 67), some (.int a1), some (.int a2), some (.int t11.1), some (.int x12), none]) hk dX3_possible_111 rfl rfl ic_1 (fun _ => rfl) (fun x12 => ?_)
        refine vv_goto 23 hk dX3_possible_114 rfl ?_
        exact vv_le (ll_s rfl (ll_s rfl (ll_s rfl (ll_s rfl (ll_s rfl (ll_n ll_0)))))) (hkl23 (t11.1, x12, t11.2))
      · skip
        refine vv_lp (fun t13 => (t13.2.2, 33, [some (rf G 67), some (.int a1), some (.int a2), some (.int t13.1), some (.int t10.2.1), some (.int t13.2.1)], [])) (fun kl33 hkl33 t13 => ?_) FU (t10.1, (0 : Int32), t10.2.2)
        refine vv_iload 35 hk dX3_possible_33 rfl rfl ?_
        refine vv_bipush 37 hk dX3_possible_35 rfl bp_40 ?_
        refine vv_icmp_gt 111 40 hk dX3_possible_37 rfl rfl ?_ ?_
        · skip
          exact vv_le (ll_s rfl (ll_s rfl (ll_s rfl (ll_s rfl (ll_s rfl (ll_n ll_0)))))) (hk111 (t13.1, t13.2.2))
        · skip
          refine vv_aload_n (i := 0) 41 hk dX3_possible_40 rfl rfl rfl ?_
          refine vv_iload_n (i := 1) 42 hk dX3_possible_41 rfl rfl rfl ?_
          refine vv_iload 44 hk dX3_possible_42 rfl rfl ?_
          refine vv_iload 46 hk dX3_possible_44 rfl rfl ?_
          refine vv_invV (st := []) 49 hk he dX3_possible_46 rfl ml_3_46 cf_X3_bound la_67 ci_3 (c_X3_bound G a1 t10.2.1 t13.2.1 t13.2.2) rfl rfl rfl rfl (fun σ14 => ?_)
          refine vv_aload_n (i := 0) 50 hk dX3_possible_49 rfl rfl rfl ?_
          refine vv_getI 53 hk he dX3_possible_50 rfl la_67 rfl ci_3 rfl fl_3_50 sd_67 ?_
          refine vv_aload_n (i := 0) 54 hk dX3_possible_53 rfl rfl rfl ?_
          refine vv_getI 57 hk he dX3_possible_54 rfl la_67 rfl ci_3 rfl fl_3_54 sd_67 ?_
          refine vv_jn (fun t15 => (t15.2, 105, [some (rf G 67), some (.int a1), some (.int a2), some (.int t15.1), some (.int t10.2.1), some (.int t13.2.1)], [])) (fun t15 => ?_) (fun k105 hk105 => ?_)
          · skip
            refine vv_iinc 108 (fun x16 => [some (rf G 67), some (.int a1), some (.int a2), some (.int t15.1), some (.int t10.2.1), some (.int x16)]) hk dX3_possible_105 rfl rfl ic_1 (fun _ => rfl) (fun x16 => ?_)
            refine vv_goto 33 hk dX3_possible_108 rfl ?_
            exact vv_le (ll_s rfl (ll_s rfl (ll_s rfl (ll_s rfl (ll_s rfl (ll_s rfl ll_0)))))) (hkl33 (t15.1, x16, t15.2))
          · skip
            refine vv_icmp_gt 105 60 hk dX3_possible_57 rfl rfl ?_ ?_
            · skip
              exact vv_le (ll_s rfl (ll_s rfl (ll_s rfl (ll_s rfl (ll_s rfl (ll_s rfl ll_0)))))) (hk105 (t13.1, σ14))
            · skip
              refine vv_iload_n (i := 3) 61 hk dX3_possible_60 rfl rfl rfl ?_
              refine vv_aload_n (i := 0) 62 hk dX3_possible_61 rfl rfl rfl ?_
              refine vv_getI 65 hk he dX3_possible_62 rfl la_67 rfl ci_3 rfl fl_3_54 sd_67 ?_
              refine vv_aload_n (i := 0) 66 hk dX3_possible_65 rfl rfl rfl ?_
              refine vv_getI 69 hk he dX3_possible_66 rfl la_67 rfl ci_3 rfl fl_3_50 sd_67 ?_
              refine vv_isub 70 hk dX3_possible_69 rfl ?_
              refine vv_iconst 71 hk dX3_possible_70 rfl ic_1 ?_
              refine vv_iadd 72 hk dX3_possible_71 rfl ?_
              refine vv_iadd 73 hk dX3_possible_72 rfl ?_
              refine vv_istore_nL (i := 3) 74 (fun x17 => [some (rf G 67), some (.int a1), some (.int a2), some (.int x17), some (.int t10.2.1), some (.int t13.2.1)]) hk dX3_possible_73 rfl rfl rfl (fun _ => rfl) (fun x17 => ?_)
              refine vv_aload_n (i := 0) 75 hk dX3_possible_74 rfl rfl rfl ?_
              refine vv_iconst 76 hk dX3_possible_75 rfl ic_0 ?_
              refine vv_iload 78 hk dX3_possible_76 rfl rfl ?_
              refine vv_iload 80 hk dX3_possible_78 rfl rfl ?_
              refine vv_invV (st := []) 83 hk he dX3_possible_80 rfl ml_3_57 cf_X3_note la_67 ci_3 (c_X3_note G (0 : Int32) t10.2.1 t10.2.1 σ14) rfl rfl rfl rfl (fun σ18 => ?_)
              refine vv_aload_n (i := 0) 84 hk dX3_possible_83 rfl rfl rfl ?_
              refine vv_iconst 85 hk dX3_possible_84 rfl ic_1 ?_
              refine vv_iload 87 hk dX3_possible_85 rfl rfl ?_
              refine vv_iload 89 hk dX3_possible_87 rfl rfl ?_
              refine vv_invV (st := []) 92 hk he dX3_possible_89 rfl ml_3_57 cf_X3_note la_67 ci_3 (c_X3_note G (1 : Int32) t13.2.1 t13.2.1 σ18) rfl rfl rfl rfl (fun σ19 => ?_)
              refine vv_aload_n (i := 0) 93 hk dX3_possible_92 rfl rfl rfl ?_
              refine vv_iconst 94 hk dX3_possible_93 rfl ic_2 ?_
              refine vv_aload_n (i := 0) 95 hk dX3_possible_94 rfl rfl rfl ?_
              refine vv_getI 98 hk he dX3_possible_95 rfl la_67 rfl ci_3 rfl fl_3_50 sd_67 ?_
              refine vv_aload_n (i := 0) 99 hk dX3_possible_98 rfl rfl rfl ?_
              refine vv_getI 102 hk he dX3_possible_99 rfl la_67 rfl ci_3 rfl fl_3_54 sd_67 ?_
              refine vv_invV (st := []) 105 hk he dX3_possible_102 rfl ml_3_57 cf_X3_note la_67 ci_3 (c_X3_note G (2 : Int32) (σ19.1 67 4) (σ19.1 67 5) σ19) rfl rfl rfl rfl (fun σ20 => ?_)
              exact vv_le (ll_s rfl (ll_s rfl (ll_s rfl (ll_s rfl (ll_s rfl (ll_s rfl ll_0)))))) (hk105 (x17, σ20))
theorem c_X0_takeBack (G : GT) (σ : Hp) : CtI G true yX0_takeBack cX0_takeBack 3 (some .boolean) 0 [(rf G 25), (rf G 1), (rf G 13)] (f_X0_takeBack σ) σ := by
  refine ctZ (L0 := [some (rf G 25), some (rf G 1), some (rf G 13)]) (by decide +kernel) rfl rfl rfl (fun κ hk he hret => ?_)
  have hk : KO G κ cX0_takeBack RX0 0 := hk
  refine vv_aload_n (i := 0) 1 hk dX0_takeBack_0 rfl rfl rfl ?_
  refine vv_getI 4 hk he dX0_takeBack_1 rfl la_25 rfl ci_0 rfl fl_0_19 sd_25 ?_
  refine vv_if_gt 9 7 hk dX0_takeBack_4 rfl rfl ?_ ?_
  · skip
    refine vv_aload_n (i := 0) 10 hk dX0_takeBack_9 rfl rfl rfl ?_
    refine vv_dup 11 hk dX0_takeBack_10 rfl rfl ?_
    refine vv_getI 14 hk he dX0_takeBack_11 rfl la_25 rfl ci_0 rfl fl_0_19 sd_25 ?_
    refine vv_iconst 15 hk dX0_takeBack_14 rfl ic_1 ?_
    refine vv_isub 16 hk dX0_takeBack_15 rfl ?_
    refine vv_putI 19 hk he dX0_takeBack_16 rfl la_25 rfl ci_0 rfl fl_0_19 sd_25 rfl rfl (fun σ1 => ?_)
    refine vv_aload_n (i := 0) 20 hk dX0_takeBack_19 rfl rfl rfl ?_
    refine vv_dup 21 hk dX0_takeBack_20 rfl rfl ?_
    refine vv_getI 24 hk he dX0_takeBack_21 rfl la_25 rfl ci_0 rfl fl_0_23 sd_25 ?_
    refine vv_iconst 25 hk dX0_takeBack_24 rfl ic_1 ?_
    refine vv_iadd 26 hk dX0_takeBack_25 rfl ?_
    refine vv_putI 29 hk he dX0_takeBack_26 rfl la_25 rfl ci_0 rfl fl_0_23 sd_25 rfl rfl (fun σ2 => ?_)
    refine vv_aload_n (i := 0) 30 hk dX0_takeBack_29 rfl rfl rfl ?_
    refine vv_getR 33 hk dX0_takeBack_30 rfl la_25 rfl ci_0 rfl fl_0_9 ?_
    refine vv_aload_n (i := 0) 34 hk dX0_takeBack_33 rfl rfl rfl ?_
    refine vv_getI 37 hk he dX0_takeBack_34 rfl la_25 rfl ci_0 rfl fl_0_19 sd_25 ?_
    refine vv_iald 38 hk he dX0_takeBack_37 rfl la_26 sd_26 (fun v3 => ?_)
    refine vv_if_ne 63 41 hk dX0_takeBack_38 rfl rfl ?_ ?_
    · skip
      refine vv_aload_n (i := 1) 42 hk dX0_takeBack_41 rfl rfl rfl ?_
      refine vv_dup 43 hk dX0_takeBack_42 rfl rfl ?_
      refine vv_getI 46 hk he dX0_takeBack_43 rfl la_1 rfl ci_5 rfl fl_0_38 sd_1 ?_
      refine vv_iconst 47 hk dX0_takeBack_46 rfl ic_1 ?_
      refine vv_aload_n (i := 0) 48 hk dX0_takeBack_47 rfl rfl rfl ?_
      refine vv_getR 51 hk dX0_takeBack_48 rfl la_25 rfl ci_0 rfl fl_0_13 ?_
      refine vv_aload_n (i := 0) 52 hk dX0_takeBack_51 rfl rfl rfl ?_
      refine vv_getI 55 hk he dX0_takeBack_52 rfl la_25 rfl ci_0 rfl fl_0_19 sd_25 ?_
      refine vv_iald 56 hk he dX0_takeBack_55 rfl la_27 sd_27 (fun v4 => ?_)
      refine vv_ishl 57 hk dX0_takeBack_56 rfl ?_
      refine vv_ixor 58 hk dX0_takeBack_57 rfl ?_
      refine vv_putI 61 hk he dX0_takeBack_58 rfl la_1 rfl ci_5 rfl fl_0_38 sd_1 rfl rfl (fun σ5 => ?_)
      refine vv_iconst 62 hk dX0_takeBack_61 rfl ic_1 ?_
      exact hret _ _ _ _ dX0_takeBack_62
    · skip
      refine vv_aload_n (i := 1) 64 hk dX0_takeBack_63 rfl rfl rfl ?_
      refine vv_aload_n (i := 0) 65 hk dX0_takeBack_64 rfl rfl rfl ?_
      refine vv_getR 68 hk dX0_takeBack_65 rfl la_25 rfl ci_0 rfl fl_0_16 ?_
      refine vv_aload_n (i := 0) 69 hk dX0_takeBack_68 rfl rfl rfl ?_
      refine vv_getI 72 hk he dX0_takeBack_69 rfl la_25 rfl ci_0 rfl fl_0_19 sd_25 ?_
      refine vv_iald 73 hk he dX0_takeBack_72 rfl la_28 sd_28 (fun v6 => ?_)
      refine vv_putI 76 hk he dX0_takeBack_73 rfl la_1 rfl ci_5 rfl fl_0_29 sd_1 rfl rfl (fun σ7 => ?_)
      refine vv_aload_n (i := 0) 77 hk dX0_takeBack_76 rfl rfl rfl ?_
      refine vv_getR 80 hk dX0_takeBack_77 rfl la_25 rfl ci_0 rfl fl_0_9 ?_
      refine vv_aload_n (i := 0) 81 hk dX0_takeBack_80 rfl rfl rfl ?_
      refine vv_getI 84 hk he dX0_takeBack_81 rfl la_25 rfl ci_0 rfl fl_0_19 sd_25 ?_
      refine vv_iald 85 hk he dX0_takeBack_84 rfl la_26 sd_26 (fun v8 => ?_)
      refine vv_iconst 86 hk dX0_takeBack_85 rfl ic_2 ?_
      refine vv_icmp_ne 111 89 hk dX0_takeBack_86 rfl rfl ?_ ?_
      · skip
        refine vv_aload_n (i := 2) 90 hk dX0_takeBack_89 rfl rfl rfl ?_
        refine vv_dup 91 hk dX0_takeBack_90 rfl rfl ?_
        refine vv_getI 94 hk he dX0_takeBack_91 rfl la_13 rfl ci_4 rfl fl_0_41 sd_13 ?_
        refine vv_iconst 95 hk dX0_takeBack_94 rfl ic_1 ?_
        refine vv_aload_n (i := 0) 96 hk dX0_takeBack_95 rfl rfl rfl ?_
        refine vv_getR 99 hk dX0_takeBack_96 rfl la_25 rfl ci_0 rfl fl_0_13 ?_
        refine vv_aload_n (i := 0) 100 hk dX0_takeBack_99 rfl rfl rfl ?_
        refine vv_getI 103 hk he dX0_takeBack_100 rfl la_25 rfl ci_0 rfl fl_0_19 sd_25 ?_
        refine vv_iald 104 hk he dX0_takeBack_103 rfl la_27 sd_27 (fun v9 => ?_)
        refine vv_ishl 105 hk dX0_takeBack_104 rfl ?_
        refine vv_iconst 106 hk dX0_takeBack_105 rfl ic_m1 ?_
        refine vv_ixor 107 hk dX0_takeBack_106 rfl ?_
        refine vv_iand 108 hk dX0_takeBack_107 rfl ?_
        refine vv_putI 111 hk he dX0_takeBack_108 rfl la_13 rfl ci_4 rfl fl_0_41 sd_13 rfl rfl (fun σ10 => ?_)
        refine vv_iconst 112 hk dX0_takeBack_111 rfl ic_1 ?_
        exact hret _ _ _ _ dX0_takeBack_112
      · skip
        refine vv_iconst 112 hk dX0_takeBack_111 rfl ic_1 ?_
        exact hret _ _ _ _ dX0_takeBack_112
  · skip
    refine vv_iconst 8 hk dX0_takeBack_7 rfl ic_0 ?_
    exact hret _ _ _ _ dX0_takeBack_8
theorem c_X8_drop (G : GT) (a1 : Int32) (σ : Hp) : CtV G true yX8_drop cX8_drop 2 none 0 [(rf G 32), (.int a1)] (f_X8_drop a1 σ) σ := by
  refine ctV (L0 := [some (rf G 32), some (.int a1)]) (by decide +kernel) rfl rfl rfl (fun κ hk he hret => ?_)
  have hk : KO G κ cX8_drop RX8 0 := hk
  refine vv_aload_n (i := 0) 1 hk dX8_drop_0 rfl rfl rfl ?_
  refine vv_dup 2 hk dX8_drop_1 rfl rfl ?_
  refine vv_getI 5 hk he dX8_drop_2 rfl la_32 rfl ci_8 rfl fl_8_49 sd_32 ?_
  refine vv_iconst 6 hk dX8_drop_5 rfl ic_1 ?_
  refine vv_iload_n (i := 1) 7 hk dX8_drop_6 rfl rfl rfl ?_
  refine vv_ishl 8 hk dX8_drop_7 rfl ?_
  refine vv_iconst 9 hk dX8_drop_8 rfl ic_m1 ?_
  refine vv_ixor 10 hk dX8_drop_9 rfl ?_
  refine vv_iand 11 hk dX8_drop_10 rfl ?_
  refine vv_putI 14 hk he dX8_drop_11 rfl la_32 rfl ci_8 rfl fl_8_49 sd_32 rfl rfl (fun σ1 => ?_)
  exact hret _ _ _ dX8_drop_14
theorem c_X8_stands (G : GT) (a1 : Int32) (σ : Hp) : CtI G true yX8_stands cX8_stands 2 (some .boolean) 0 [(rf G 32), (.int a1)] (rdI (f_X8_stands a1 σ) σ) σ := by
  refine ctZr (L0 := [some (rf G 32), some (.int a1)]) (by decide +kernel) rfl rfl rfl (fun κ hk he hret => ?_)
  have hk : KO G κ cX8_stands RX8 0 := hk
  refine vv_aload_n (i := 0) 1 hk dX8_stands_0 rfl rfl rfl ?_
  refine vv_getI 4 hk he dX8_stands_1 rfl la_32 rfl ci_8 rfl fl_8_49 sd_32 ?_
  refine vv_iload_n (i := 1) 5 hk dX8_stands_4 rfl rfl rfl ?_
  refine vv_ishr 6 hk dX8_stands_5 rfl ?_
  refine vv_iconst 7 hk dX8_stands_6 rfl ic_1 ?_
  refine vv_iand 8 hk dX8_stands_7 rfl ?_
  refine vv_iconst 9 hk dX8_stands_8 rfl ic_1 ?_
  refine vv_jn (fun t1 => (σ, 17, [some (rf G 32), none], [(.int t1)])) (fun t1 => ?_) (fun k17 hk17 => ?_)
  · skip
    exact hret _ _ _ dX8_stands_17
  · skip
    refine vv_icmp_ne 16 12 hk dX8_stands_9 rfl rfl ?_ ?_
    · skip
      refine vv_iconst 13 hk dX8_stands_12 rfl ic_1 ?_
      refine vv_goto 17 hk dX8_stands_13 rfl ?_
      exact vv_le (ll_s rfl (ll_n ll_0)) (hk17 (1 : Int32))
    · skip
      refine vv_iconst 17 hk dX8_stands_16 rfl ic_0 ?_
      exact vv_le (ll_s rfl (ll_n ll_0)) (hk17 (0 : Int32))
theorem c_X2_go (G : GT) (a1 : Int32) (a2 : Int32) (a3 : Int32) (σ : Hp) : CtV G true yX2_go cX2_go 4 none 0 [(rf G 63), (.int a1), (.int a2), (.int a3)] (f_X2_go a1 a2 a3 σ) σ := by
  refine ctV (L0 := [some (rf G 63), some (.int a1), some (.int a2), some (.int a3)]) (by decide +kernel) rfl rfl rfl (fun κ hk he hret => ?_)
  have hk : KO G κ cX2_go RX2 0 := hk
  refine vv_iload_n (i := 2) 1 hk dX2_go_0 rfl rfl rfl ?_
  refine vv_if_ge 22 4 hk dX2_go_1 rfl rfl ?_ ?_
  · skip
    refine vv_iload_n (i := 2) 23 hk dX2_go_22 rfl rfl rfl ?_
    refine vv_iconst 24 hk dX2_go_23 rfl ic_5 ?_
    refine vv_icmp_lt 45 27 hk dX2_go_24 rfl rfl ?_ ?_
    · skip
      refine vv_iload_n (i := 3) 46 hk dX2_go_45 rfl rfl rfl ?_
      refine vv_jn (fun t1 => (σ, 67, [some (rf G 63), some (.int a1), none, none], [])) (fun t1 => ?_) (fun k67 hk67 => ?_)
      · skip
        refine vv_aload_n (i := 0) 68 hk dX2_go_67 rfl rfl rfl ?_
        refine vv_getR 71 hk dX2_go_68 rfl la_63 rfl ci_2 rfl fl_2_17 ?_
        refine vv_iload_n (i := 1) 72 hk dX2_go_71 rfl rfl rfl ?_
        refine vv_dup2 73 hk dX2_go_72 rfl rfl rfl ?_
        refine vv_iald 74 hk he dX2_go_73 rfl la_66 sd_66 (fun v2 => ?_)
        refine vv_aload_n (i := 0) 75 hk dX2_go_74 rfl rfl rfl ?_
        refine vv_getR 78 hk dX2_go_75 rfl la_63 rfl ci_2 rfl fl_2_13 ?_
        refine vv_iload_n (i := 1) 79 hk dX2_go_78 rfl rfl rfl ?_
        refine vv_iald 80 hk he dX2_go_79 rfl la_65 sd_65 (fun v3 => ?_)
        refine vv_iadd 81 hk dX2_go_80 rfl ?_
        refine vv_iast 82 hk he dX2_go_81 rfl la_66 sd_66 (fun σ4 => ?_)
        refine vv_goto 104 hk dX2_go_82 rfl ?_
        exact hret _ _ _ dX2_go_104
      · skip
        refine vv_if_lt 67 49 hk dX2_go_46 rfl rfl ?_ ?_
        · skip
          exact vv_le (ll_s rfl (ll_s rfl (ll_n (ll_n ll_0)))) (hk67 ())
        · skip
          refine vv_iload_n (i := 3) 50 hk dX2_go_49 rfl rfl rfl ?_
          refine vv_iconst 51 hk dX2_go_50 rfl ic_5 ?_
          refine vv_icmp_ge 67 54 hk dX2_go_51 rfl rfl ?_ ?_
          · skip
            exact vv_le (ll_s rfl (ll_s rfl (ll_n (ll_n ll_0)))) (hk67 ())
          · skip
            refine vv_aload_n (i := 0) 55 hk dX2_go_54 rfl rfl rfl ?_
            refine vv_getR 58 hk dX2_go_55 rfl la_63 rfl ci_2 rfl fl_2_9 ?_
            refine vv_iload_n (i := 3) 59 hk dX2_go_58 rfl rfl rfl ?_
            refine vv_iconst 60 hk dX2_go_59 rfl ic_5 ?_
            refine vv_imul 61 hk dX2_go_60 rfl ?_
            refine vv_iload_n (i := 2) 62 hk dX2_go_61 rfl rfl rfl ?_
            refine vv_iadd 63 hk dX2_go_62 rfl ?_
            refine vv_zald 64 hk he dX2_go_63 rfl la_64 sd_64 (fun v5 => ?_)
            refine vv_if_eq 85 67 hk dX2_go_64 rfl rfl ?_ ?_
            · skip
              refine vv_aload_n (i := 0) 86 hk dX2_go_85 rfl rfl rfl ?_
              refine vv_getR 89 hk dX2_go_86 rfl la_63 rfl ci_2 rfl fl_2_17 ?_
              refine vv_iload_n (i := 3) 90 hk dX2_go_89 rfl rfl rfl ?_
              refine vv_iconst 91 hk dX2_go_90 rfl ic_5 ?_
              refine vv_imul 92 hk dX2_go_91 rfl ?_
              refine vv_iload_n (i := 2) 93 hk dX2_go_92 rfl rfl rfl ?_
              refine vv_iadd 94 hk dX2_go_93 rfl ?_
              refine vv_dup2 95 hk dX2_go_94 rfl rfl rfl ?_
              refine vv_iald 96 hk he dX2_go_95 rfl la_66 sd_66 (fun v6 => ?_)
              refine vv_aload_n (i := 0) 97 hk dX2_go_96 rfl rfl rfl ?_
              refine vv_getR 100 hk dX2_go_97 rfl la_63 rfl ci_2 rfl fl_2_13 ?_
              refine vv_iload_n (i := 1) 101 hk dX2_go_100 rfl rfl rfl ?_
              refine vv_iald 102 hk he dX2_go_101 rfl la_65 sd_65 (fun v7 => ?_)
              refine vv_iadd 103 hk dX2_go_102 rfl ?_
              refine vv_iast 104 hk he dX2_go_103 rfl la_66 sd_66 (fun σ8 => ?_)
              exact hret _ _ _ dX2_go_104
            · skip
              exact vv_le (ll_s rfl (ll_s rfl (ll_n (ll_n ll_0)))) (hk67 ())
    · skip
      refine vv_aload_n (i := 0) 28 hk dX2_go_27 rfl rfl rfl ?_
      refine vv_dup 29 hk dX2_go_28 rfl rfl ?_
      refine vv_getI 32 hk he dX2_go_29 rfl la_63 rfl ci_2 rfl fl_2_26 sd_63 ?_
      refine vv_aload_n (i := 0) 33 hk dX2_go_32 rfl rfl rfl ?_
      refine vv_getR 36 hk dX2_go_33 rfl la_63 rfl ci_2 rfl fl_2_13 ?_
      refine vv_iload_n (i := 1) 37 hk dX2_go_36 rfl rfl rfl ?_
      refine vv_iald 38 hk he dX2_go_37 rfl la_65 sd_65 (fun v9 => ?_)
      refine vv_iadd 39 hk dX2_go_38 rfl ?_
      refine vv_putI 42 hk he dX2_go_39 rfl la_63 rfl ci_2 rfl fl_2_26 sd_63 rfl rfl (fun σ10 => ?_)
      refine vv_goto 104 hk dX2_go_42 rfl ?_
      exact hret _ _ _ dX2_go_104
  · skip
    refine vv_aload_n (i := 0) 5 hk dX2_go_4 rfl rfl rfl ?_
    refine vv_dup 6 hk dX2_go_5 rfl rfl ?_
    refine vv_getI 9 hk he dX2_go_6 rfl la_63 rfl ci_2 rfl fl_2_30 sd_63 ?_
    refine vv_aload_n (i := 0) 10 hk dX2_go_9 rfl rfl rfl ?_
    refine vv_getR 13 hk dX2_go_10 rfl la_63 rfl ci_2 rfl fl_2_13 ?_
    refine vv_iload_n (i := 1) 14 hk dX2_go_13 rfl rfl rfl ?_
    refine vv_iald 15 hk he dX2_go_14 rfl la_65 sd_65 (fun v11 => ?_)
    refine vv_iadd 16 hk dX2_go_15 rfl ?_
    refine vv_putI 19 hk he dX2_go_16 rfl la_63 rfl ci_2 rfl fl_2_30 sd_63 rfl rfl (fun σ12 => ?_)
    refine vv_goto 104 hk dX2_go_19 rfl ?_
    exact hret _ _ _ dX2_go_104
theorem c_X2_step (G : GT) (σ : Hp) : CtV G true yX2_step cX2_step 2 none 1 [(rf G 63)] (f_X2_step σ) σ := by
  refine ctV (L0 := [some (rf G 63), none]) (by decide +kernel) rfl rfl rfl (fun κ hk he hret => ?_)
  have hk : KO G κ cX2_step RX2 1 := hk
  refine vv_aload_n (i := 0) 1 hk dX2_step_0 rfl rfl rfl ?_
  refine vv_getR 4 hk dX2_step_1 rfl la_63 rfl ci_2 rfl fl_2_17 ?_
  refine vv_iconst 5 hk dX2_step_4 rfl ic_0 ?_
  refine vv_staV (st := []) 8 hk he dX2_step_5 rfl ml_2_20 sf_J7_fill_53178 (c_J7_fill_53178 G 66 25 (0 : Int32) σ la_66 sd_66) rfl rfl rfl rfl (fun σ1 => ?_)
  refine vv_aload_n (i := 0) 9 hk dX2_step_8 rfl rfl rfl ?_
  refine vv_dup 10 hk dX2_step_9 rfl rfl ?_
  refine vv_getI 13 hk he dX2_step_10 rfl la_63 rfl ci_2 rfl fl_2_26 sd_63 ?_
  refine vv_iconst 14 hk dX2_step_13 rfl ic_4 ?_
  refine vv_imul 15 hk dX2_step_14 rfl ?_
  refine vv_putI 18 hk he dX2_step_15 rfl la_63 rfl ci_2 rfl fl_2_26 sd_63 rfl rfl (fun σ2 => ?_)
  refine vv_aload_n (i := 0) 19 hk dX2_step_18 rfl rfl rfl ?_
  refine vv_dup 20 hk dX2_step_19 rfl rfl ?_
  refine vv_getI 23 hk he dX2_step_20 rfl la_63 rfl ci_2 rfl fl_2_30 sd_63 ?_
  refine vv_iconst 24 hk dX2_step_23 rfl ic_4 ?_
  refine vv_imul 25 hk dX2_step_24 rfl ?_
  refine vv_putI 28 hk he dX2_step_25 rfl la_63 rfl ci_2 rfl fl_2_30 sd_63 rfl rfl (fun σ3 => ?_)
  refine vv_iconst 29 hk dX2_step_28 rfl ic_0 ?_
  refine vv_istore_n (i := 1) 30 [some (rf G 63), some (.int (0 : Int32))] hk dX2_step_29 rfl rfl rfl rfl ?_
  refine vv_jn (fun t4 => (t4, 103, [some (rf G 63), none], [])) (fun t4 => ?_) (fun k103 hk103 => ?_)
  · skip
    refine vv_aload_n (i := 0) 104 hk dX2_step_103 rfl rfl rfl ?_
    refine vv_getR 107 hk dX2_step_104 rfl la_63 rfl ci_2 rfl fl_2_17 ?_
    refine vv_iconst 108 hk dX2_step_107 rfl ic_0 ?_
    refine vv_aload_n (i := 0) 109 hk dX2_step_108 rfl rfl rfl ?_
    refine vv_getR 112 hk dX2_step_109 rfl la_63 rfl ci_2 rfl fl_2_13 ?_
    refine vv_iconst 113 hk dX2_step_112 rfl ic_0 ?_
    refine vv_bipush 115 hk dX2_step_113 rfl bp_25 ?_
    refine vv_copy 118 hk he dX2_step_115 rfl ml_2_40 la_66 la_65 sd_66 sd_65 (Nat.le_of_ble_eq_true rfl) (fun σ5 => ?_)
    exact hret _ _ _ dX2_step_118
  · skip
    refine vv_lp (fun t6 => (t6.2, 30, [some (rf G 63), some (.int t6.1)], [])) (fun kl30 hkl30 t6 => ?_) FU ((0 : Int32), σ3)
    refine vv_iload_n (i := 1) 31 hk dX2_step_30 rfl rfl rfl ?_
    refine vv_bipush 33 hk dX2_step_31 rfl bp_25 ?_
    refine vv_icmp_ge 103 36 hk dX2_step_33 rfl rfl ?_ ?_
    · skip
      exact vv_le (ll_s rfl (ll_n ll_0)) (hk103 t6.2)
    · skip
      refine vv_aload_n (i := 0) 37 hk dX2_step_36 rfl rfl rfl ?_
      refine vv_getR 40 hk dX2_step_37 rfl la_63 rfl ci_2 rfl fl_2_13 ?_
      refine vv_iload_n (i := 1) 41 hk dX2_step_40 rfl rfl rfl ?_
      refine vv_iald 42 hk he dX2_step_41 rfl la_65 sd_65 (fun v7 => ?_)
      refine vv_jn (fun t8 => (t8, 97, [some (rf G 63), some (.int t6.1)], [])) (fun t8 => ?_) (fun k97 hk97 => ?_)
      · skip
        refine vv_iinc 100 (fun x9 => [some (rf G 63), some (.int x9)]) hk dX2_step_97 rfl rfl ic_1 (fun _ => rfl) (fun x9 => ?_)
        refine vv_goto 30 hk dX2_step_100 rfl ?_
        exact vv_le (ll_s rfl (ll_s rfl ll_0)) (hkl30 (x9, t8))
      · skip
        refine vv_if_le 97 45 hk dX2_step_42 rfl rfl ?_ ?_
        · skip
          exact vv_le (ll_s rfl (ll_s rfl ll_0)) (hk97 t6.2)
        · skip
          refine vv_aload_n (i := 0) 46 hk dX2_step_45 rfl rfl rfl ?_
          refine vv_iload_n (i := 1) 47 hk dX2_step_46 rfl rfl rfl ?_
          refine vv_iload_n (i := 1) 48 hk dX2_step_47 rfl rfl rfl ?_
          refine vv_iconst 49 hk dX2_step_48 rfl ic_5 ?_
          refine vv_irem 50 hk dX2_step_49 rfl ?_
          refine vv_iconst 51 hk dX2_step_50 rfl ic_1 ?_
          refine vv_isub 52 hk dX2_step_51 rfl ?_
          refine vv_iload_n (i := 1) 53 hk dX2_step_52 rfl rfl rfl ?_
          refine vv_iconst 54 hk dX2_step_53 rfl ic_5 ?_
          refine vv_idiv 55 hk dX2_step_54 rfl ?_
          refine vv_invV (st := []) 58 hk he dX2_step_55 rfl ml_2_36 cf_X2_go la_63 ci_2 (c_X2_go G t6.1 ((t6.1 - t6.1 / (5 : Int32) * (5 : Int32)) - (1 : Int32)) (t6.1 / (5 : Int32)) t6.2) rfl rfl rfl rfl (fun σ10 => ?_)
          refine vv_aload_n (i := 0) 59 hk dX2_step_58 rfl rfl rfl ?_
          refine vv_iload_n (i := 1) 60 hk dX2_step_59 rfl rfl rfl ?_
          refine vv_iload_n (i := 1) 61 hk dX2_step_60 rfl rfl rfl ?_
          refine vv_iconst 62 hk dX2_step_61 rfl ic_5 ?_
          refine vv_irem 63 hk dX2_step_62 rfl ?_
          refine vv_iconst 64 hk dX2_step_63 rfl ic_1 ?_
          refine vv_iadd 65 hk dX2_step_64 rfl ?_
          refine vv_iload_n (i := 1) 66 hk dX2_step_65 rfl rfl rfl ?_
          refine vv_iconst 67 hk dX2_step_66 rfl ic_5 ?_
          refine vv_idiv 68 hk dX2_step_67 rfl ?_
          refine vv_invV (st := []) 71 hk he dX2_step_68 rfl ml_2_36 cf_X2_go la_63 ci_2 (c_X2_go G t6.1 ((t6.1 - t6.1 / (5 : Int32) * (5 : Int32)) + (1 : Int32)) (t6.1 / (5 : Int32)) σ10) rfl rfl rfl rfl (fun σ11 => ?_)
          refine vv_aload_n (i := 0) 72 hk dX2_step_71 rfl rfl rfl ?_
          refine vv_iload_n (i := 1) 73 hk dX2_step_72 rfl rfl rfl ?_
          refine vv_iload_n (i := 1) 74 hk dX2_step_73 rfl rfl rfl ?_
          refine vv_iconst 75 hk dX2_step_74 rfl ic_5 ?_
          refine vv_irem 76 hk dX2_step_75 rfl ?_
          refine vv_iload_n (i := 1) 77 hk dX2_step_76 rfl rfl rfl ?_
          refine vv_iconst 78 hk dX2_step_77 rfl ic_5 ?_
          refine vv_idiv 79 hk dX2_step_78 rfl ?_
          refine vv_iconst 80 hk dX2_step_79 rfl ic_1 ?_
          refine vv_isub 81 hk dX2_step_80 rfl ?_
          refine vv_invV (st := []) 84 hk he dX2_step_81 rfl ml_2_36 cf_X2_go la_63 ci_2 (c_X2_go G t6.1 (t6.1 - t6.1 / (5 : Int32) * (5 : Int32)) ((t6.1 / (5 : Int32)) - (1 : Int32)) σ11) rfl rfl rfl rfl (fun σ12 => ?_)
          refine vv_aload_n (i := 0) 85 hk dX2_step_84 rfl rfl rfl ?_
          refine vv_iload_n (i := 1) 86 hk dX2_step_85 rfl rfl rfl ?_
          refine vv_iload_n (i := 1) 87 hk dX2_step_86 rfl rfl rfl ?_
          refine vv_iconst 88 hk dX2_step_87 rfl ic_5 ?_
          refine vv_irem 89 hk dX2_step_88 rfl ?_
          refine vv_iload_n (i := 1) 90 hk dX2_step_89 rfl rfl rfl ?_
          refine vv_iconst 91 hk dX2_step_90 rfl ic_5 ?_
          refine vv_idiv 92 hk dX2_step_91 rfl ?_
          refine vv_iconst 93 hk dX2_step_92 rfl ic_1 ?_
          refine vv_iadd 94 hk dX2_step_93 rfl ?_
          refine vv_invV (st := []) 97 hk he dX2_step_94 rfl ml_2_36 cf_X2_go la_63 ci_2 (c_X2_go G t6.1 (t6.1 - t6.1 / (5 : Int32) * (5 : Int32)) ((t6.1 / (5 : Int32)) + (1 : Int32)) σ12) rfl rfl rfl rfl (fun σ13 => ?_)
          exact vv_le (ll_s rfl (ll_s rfl ll_0)) (hk97 σ13)
theorem c_X2_ways (G : GT) (a1 : Int32) (a2 : Int32) (a3 : Int32) (σ : Hp) : CtI G true yX2_ways cX2_ways 5 (some .int) 2 [(rf G 63), (.int a1), (.int a2), (.int a3)] (f_X2_ways a1 a2 a3 σ) σ := by
  refine ctI (L0 := [some (rf G 63), some (.int a1), some (.int a2), some (.int a3), none]) (by decide +kernel) rfl rfl rfl (fun κ hk he hret => ?_)
  have hk : KO G κ cX2_ways RX2 2 := hk
  refine vv_aload_n (i := 0) 1 hk dX2_ways_0 rfl rfl rfl ?_
  refine vv_getR 4 hk dX2_ways_1 rfl la_63 rfl ci_2 rfl fl_2_9 ?_
  refine vv_iload_n (i := 1) 5 hk dX2_ways_4 rfl rfl rfl ?_
  refine vv_iconst 6 hk dX2_ways_5 rfl ic_5 ?_
  refine vv_imul 7 hk dX2_ways_6 rfl ?_
  refine vv_zald 8 hk he dX2_ways_7 rfl la_64 sd_64 (fun v1 => ?_)
  refine vv_if_eq 26 11 hk dX2_ways_8 rfl rfl ?_ ?_
  · skip
    refine vv_aload_n (i := 0) 27 hk dX2_ways_26 rfl rfl rfl ?_
    refine vv_getR 30 hk dX2_ways_27 rfl la_63 rfl ci_2 rfl fl_2_13 ?_
    refine vv_iconst 31 hk dX2_ways_30 rfl ic_0 ?_
    refine vv_staV (st := []) 34 hk he dX2_ways_31 rfl ml_2_20 sf_J7_fill_53178 (c_J7_fill_53178 G 65 25 (0 : Int32) σ la_65 sd_65) rfl rfl rfl rfl (fun σ2 => ?_)
    refine vv_aload_n (i := 0) 35 hk dX2_ways_34 rfl rfl rfl ?_
    refine vv_getR 38 hk dX2_ways_35 rfl la_63 rfl ci_2 rfl fl_2_13 ?_
    refine vv_iload_n (i := 1) 39 hk dX2_ways_38 rfl rfl rfl ?_
    refine vv_iconst 40 hk dX2_ways_39 rfl ic_5 ?_
    refine vv_imul 41 hk dX2_ways_40 rfl ?_
    refine vv_iconst 42 hk dX2_ways_41 rfl ic_1 ?_
    refine vv_iast 43 hk he dX2_ways_42 rfl la_65 sd_65 (fun σ3 => ?_)
    refine vv_aload_n (i := 0) 44 hk dX2_ways_43 rfl rfl rfl ?_
    refine vv_iconst 45 hk dX2_ways_44 rfl ic_0 ?_
    refine vv_putI 48 hk he dX2_ways_45 rfl la_63 rfl ci_2 rfl fl_2_26 sd_63 rfl rfl (fun σ4 => ?_)
    refine vv_aload_n (i := 0) 49 hk dX2_ways_48 rfl rfl rfl ?_
    refine vv_iconst 50 hk dX2_ways_49 rfl ic_0 ?_
    refine vv_putI 53 hk he dX2_ways_50 rfl la_63 rfl ci_2 rfl fl_2_30 sd_63 rfl rfl (fun σ5 => ?_)
    refine vv_iconst 54 hk dX2_ways_53 rfl ic_0 ?_
    refine vv_istore 56 [some (rf G 63), some (.int a1), some (.int a2), some (.int a3), some (.int (0 : Int32))] hk dX2_ways_54 rfl rfl rfl ?_
    refine vv_jn (fun t6 => (t6, 72, [some (rf G 63), none, some (.int a2), some (.int a3), none], [])) (fun t6 => ?_) (fun k72 hk72 => ?_)
    · skip
      refine vv_iload_n (i := 3) 73 hk dX2_ways_72 rfl rfl rfl ?_
      refine vv_iconst 74 hk dX2_ways_73 rfl ic_2 ?_
      refine vv_icmp_ne 93 77 hk dX2_ways_74 rfl rfl ?_ ?_
      · skip
        refine vv_iconst 78 hk dX2_ways_77 rfl ic_1 ?_
        refine vv_iconst 79 hk dX2_ways_78 rfl ic_2 ?_
        refine vv_iload_n (i := 2) 80 hk dX2_ways_79 rfl rfl rfl ?_
        refine vv_imul 81 hk dX2_ways_80 rfl ?_
        refine vv_ishl 82 hk dX2_ways_81 rfl ?_
        refine vv_aload_n (i := 0) 83 hk dX2_ways_82 rfl rfl rfl ?_
        refine vv_getI 86 hk he dX2_ways_83 rfl la_63 rfl ci_2 rfl fl_2_26 sd_63 ?_
        refine vv_isub 87 hk dX2_ways_86 rfl ?_
        refine vv_aload_n (i := 0) 88 hk dX2_ways_87 rfl rfl rfl ?_
        refine vv_getI 91 hk he dX2_ways_88 rfl la_63 rfl ci_2 rfl fl_2_30 sd_63 ?_
        refine vv_isub 92 hk dX2_ways_91 rfl ?_
        exact hret _ _ _ _ dX2_ways_92
      · skip
        refine vv_iload_n (i := 3) 94 hk dX2_ways_93 rfl rfl rfl ?_
        refine vv_jn (fun t7 => (t6, 108, [some (rf G 63), none, none, none, none], [(.int t7)])) (fun t7 => ?_) (fun k108 hk108 => ?_)
        · skip
          exact hret _ _ _ _ dX2_ways_108
        · skip
          refine vv_if_ne 104 97 hk dX2_ways_94 rfl rfl ?_ ?_
          · skip
            refine vv_aload_n (i := 0) 98 hk dX2_ways_97 rfl rfl rfl ?_
            refine vv_getI 101 hk he dX2_ways_98 rfl la_63 rfl ci_2 rfl fl_2_26 sd_63 ?_
            refine vv_goto 108 hk dX2_ways_101 rfl ?_
            exact vv_le (ll_s rfl (ll_n (ll_n (ll_n (ll_n ll_0))))) (hk108 (t6.1 63 3))
          · skip
            refine vv_aload_n (i := 0) 105 hk dX2_ways_104 rfl rfl rfl ?_
            refine vv_getI 108 hk he dX2_ways_105 rfl la_63 rfl ci_2 rfl fl_2_30 sd_63 ?_
            exact vv_le (ll_s rfl (ll_n (ll_n (ll_n (ll_n ll_0))))) (hk108 (t6.1 63 4))
    · skip
      refine vv_le (L' := [some (rf G 63), none, some (.int a2), some (.int a3), some (.int (0 : Int32))]) (ll_s rfl (ll_n (ll_s rfl (ll_s rfl (ll_s rfl ll_0))))) ?_
      refine vv_lp (fun t8 => (t8.2, 56, [some (rf G 63), none, some (.int a2), some (.int a3), some (.int t8.1)], [])) (fun kl56 hkl56 t8 => ?_) FU ((0 : Int32), σ5)
      refine vv_iload 58 hk dX2_ways_56 rfl rfl ?_
      refine vv_iload_n (i := 2) 59 hk dX2_ways_58 rfl rfl rfl ?_
      refine vv_icmp_ge 72 62 hk dX2_ways_59 rfl rfl ?_ ?_
      · skip
        exact vv_le (ll_s rfl (ll_n (ll_s rfl (ll_s rfl (ll_n ll_0))))) (hk72 t8.2)
      · skip
        refine vv_aload_n (i := 0) 63 hk dX2_ways_62 rfl rfl rfl ?_
        refine vv_invV (st := []) 66 hk he dX2_ways_63 rfl ml_2_33 cf_X2_step la_63 ci_2 (c_X2_step G t8.2) rfl rfl rfl rfl (fun σ9 => ?_)
        refine vv_iinc 69 (fun x10 => [some (rf G 63), none, some (.int a2), some (.int a3), some (.int x10)]) hk dX2_ways_66 rfl rfl ic_1 (fun _ => rfl) (fun x10 => ?_)
        refine vv_goto 56 hk dX2_ways_69 rfl ?_
        exact vv_le (ll_s rfl (ll_n (ll_s rfl (ll_s rfl (ll_s rfl ll_0))))) (hkl56 (x10, σ9))
  · skip
    refine vv_iload_n (i := 3) 12 hk dX2_ways_11 rfl rfl rfl ?_
    refine vv_iconst 13 hk dX2_ways_12 rfl ic_2 ?_
    refine vv_jn (fun t11 => (σ, 25, [some (rf G 63), none, none, none, none], [(.int t11)])) (fun t11 => ?_) (fun k25 hk25 => ?_)
    · skip
      exact hret _ _ _ _ dX2_ways_25
    · skip
      refine vv_icmp_ne 24 16 hk dX2_ways_13 rfl rfl ?_ ?_
      · skip
        refine vv_iconst 17 hk dX2_ways_16 rfl ic_1 ?_
        refine vv_iconst 18 hk dX2_ways_17 rfl ic_2 ?_
        refine vv_iload_n (i := 2) 19 hk dX2_ways_18 rfl rfl rfl ?_
        refine vv_imul 20 hk dX2_ways_19 rfl ?_
        refine vv_ishl 21 hk dX2_ways_20 rfl ?_
        refine vv_goto 25 hk dX2_ways_21 rfl ?_
        exact vv_le (ll_s rfl (ll_n (ll_n (ll_n (ll_n ll_0))))) (hk25 ((1 : Int32) <<< (((2 : Int32) * a2) &&& 31)))
      · skip
        refine vv_iconst 25 hk dX2_ways_24 rfl ic_0 ?_
        exact vv_le (ll_s rfl (ll_n (ll_n (ll_n (ll_n ll_0))))) (hk25 (0 : Int32))
theorem c_X4_become_19 (G : GT) (σ : Hp) : CtV G true yX4_become cX4_become 2 none 0 [(rf G 19), (rf G 13)] (f_X4_become 19 σ) σ := by
  refine ctV (L0 := [some (rf G 19), some (rf G 13)]) (by decide +kernel) rfl rfl rfl (fun κ hk he hret => ?_)
  have hk : KO G κ cX4_become RX4 0 := hk
  refine vv_aload_n (i := 0) 1 hk dX4_become_0 rfl rfl rfl ?_
  refine vv_aload_n (i := 1) 2 hk dX4_become_1 rfl rfl rfl ?_
  refine vv_getI 5 hk he dX4_become_2 rfl la_13 rfl ci_4 rfl fl_4_27 sd_13 ?_
  refine vv_putI 8 hk he dX4_become_5 rfl la_19 rfl ci_4 rfl fl_4_27 sd_19 rfl rfl (fun σ1 => ?_)
  refine vv_aload_n (i := 0) 9 hk dX4_become_8 rfl rfl rfl ?_
  refine vv_aload_n (i := 1) 10 hk dX4_become_9 rfl rfl rfl ?_
  refine vv_getI 13 hk he dX4_become_10 rfl la_13 rfl ci_4 rfl fl_4_31 sd_13 ?_
  refine vv_putI 16 hk he dX4_become_13 rfl la_19 rfl ci_4 rfl fl_4_31 sd_19 rfl rfl (fun σ2 => ?_)
  refine vv_aload_n (i := 1) 17 hk dX4_become_16 rfl rfl rfl ?_
  refine vv_getR 20 hk dX4_become_17 rfl la_13 rfl ci_4 rfl fl_4_9 ?_
  refine vv_iconst 21 hk dX4_become_20 rfl ic_0 ?_
  refine vv_aload_n (i := 0) 22 hk dX4_become_21 rfl rfl rfl ?_
  refine vv_getR 25 hk dX4_become_22 rfl la_19 rfl ci_4 rfl fl_4_9 ?_
  refine vv_iconst 26 hk dX4_become_25 rfl ic_0 ?_
  refine vv_bipush 28 hk dX4_become_26 rfl bp_15 ?_
  refine vv_copy 31 hk he dX4_become_28 rfl ml_4_34 la_14 la_20 sd_14 sd_20 (Nat.le_of_ble_eq_true rfl) (fun σ3 => ?_)
  refine vv_aload_n (i := 1) 32 hk dX4_become_31 rfl rfl rfl ?_
  refine vv_getR 35 hk dX4_become_32 rfl la_13 rfl ci_4 rfl fl_4_15 ?_
  refine vv_iconst 36 hk dX4_become_35 rfl ic_0 ?_
  refine vv_aload_n (i := 0) 37 hk dX4_become_36 rfl rfl rfl ?_
  refine vv_getR 40 hk dX4_become_37 rfl la_19 rfl ci_4 rfl fl_4_15 ?_
  refine vv_iconst 41 hk dX4_become_40 rfl ic_0 ?_
  refine vv_bipush 43 hk dX4_become_41 rfl bp_15 ?_
  refine vv_copy 46 hk he dX4_become_43 rfl ml_4_34 la_15 la_21 sd_15 sd_21 (Nat.le_of_ble_eq_true rfl) (fun σ4 => ?_)
  refine vv_aload_n (i := 1) 47 hk dX4_become_46 rfl rfl rfl ?_
  refine vv_getR 50 hk dX4_become_47 rfl la_13 rfl ci_4 rfl fl_4_18 ?_
  refine vv_iconst 51 hk dX4_become_50 rfl ic_0 ?_
  refine vv_aload_n (i := 0) 52 hk dX4_become_51 rfl rfl rfl ?_
  refine vv_getR 55 hk dX4_become_52 rfl la_19 rfl ci_4 rfl fl_4_18 ?_
  refine vv_iconst 56 hk dX4_become_55 rfl ic_0 ?_
  refine vv_bipush 58 hk dX4_become_56 rfl bp_24 ?_
  refine vv_copy 61 hk he dX4_become_58 rfl ml_4_34 la_16 la_22 sd_16 sd_22 (Nat.le_of_ble_eq_true rfl) (fun σ5 => ?_)
  refine vv_aload_n (i := 1) 62 hk dX4_become_61 rfl rfl rfl ?_
  refine vv_getR 65 hk dX4_become_62 rfl la_13 rfl ci_4 rfl fl_4_21 ?_
  refine vv_iconst 66 hk dX4_become_65 rfl ic_0 ?_
  refine vv_aload_n (i := 0) 67 hk dX4_become_66 rfl rfl rfl ?_
  refine vv_getR 70 hk dX4_become_67 rfl la_19 rfl ci_4 rfl fl_4_21 ?_
  refine vv_iconst 71 hk dX4_become_70 rfl ic_0 ?_
  refine vv_iconst 72 hk dX4_become_71 rfl ic_3 ?_
  refine vv_copy 75 hk he dX4_become_72 rfl ml_4_34 la_17 la_23 sd_17 sd_23 (Nat.le_of_ble_eq_true rfl) (fun σ6 => ?_)
  exact hret _ _ _ dX4_become_75
