set_option maxHeartbeats 4000000
set_option maxRecDepth 100000
theorem c_X12_becomes (G : GT) (a1 : Int32) (a2 : Int32) (a3 : Int32) (σ : Hp) : CtV G false yX12_becomes cX12_becomes 4 none 0 [(rf G 86), (.int a1), (.int a2), (.int a3)] (f_X12_becomes a1 a2 a3 σ) σ := by
  refine ctV (L0 := [some (rf G 86), some (.int a1), some (.int a2), some (.int a3)]) (by decide +kernel) rfl rfl rfl (fun κ hk he hret => ?_)
  have hk : KO G κ cX12_becomes RX12 0 := hk
  refine vv_iload_n (i := 1) 1 hk dX12_becomes_0 rfl rfl rfl ?_
  refine vv_if_ne 21 4 hk dX12_becomes_1 rfl rfl ?_ ?_
  · skip
    refine vv_aload_n (i := 0) 5 hk dX12_becomes_4 rfl rfl rfl ?_
    refine vv_getR 8 hk dX12_becomes_5 rfl la_86 rfl ci_12 rfl fl_12_61 ?_
    refine vv_iload_n (i := 2) 9 hk dX12_becomes_8 rfl rfl rfl ?_
    refine vv_iload_n (i := 3) 10 hk dX12_becomes_9 rfl rfl rfl ?_
    refine vv_iconst 11 hk dX12_becomes_10 rfl ic_1 ?_
    refine vv_jn (fun t1 => (σ, 19, [some (rf G 86), none, none, none], [(.int t1), (.int a2), (rf G 104)])) (fun t1 => ?_) (fun k19 hk19 => ?_)
    · skip
      refine vv_zast 20 hk he dX12_becomes_19 rfl la_104 sd_104 (fun σ2 => ?_)
      exact hret _ _ _ dX12_becomes_20
    · skip
      refine vv_icmp_ne 18 14 hk dX12_becomes_11 rfl rfl ?_ ?_
      · skip
        refine vv_iconst 15 hk dX12_becomes_14 rfl ic_1 ?_
        refine vv_goto 19 hk dX12_becomes_15 rfl ?_
        exact vv_le (ll_s rfl (ll_n (ll_n (ll_n ll_0)))) (hk19 (1 : Int32))
      · skip
        refine vv_iconst 19 hk dX12_becomes_18 rfl ic_0 ?_
        exact vv_le (ll_s rfl (ll_n (ll_n (ll_n ll_0)))) (hk19 (0 : Int32))
  · skip
    refine vv_aload_n (i := 0) 22 hk dX12_becomes_21 rfl rfl rfl ?_
    refine vv_getR 25 hk dX12_becomes_22 rfl la_86 rfl ci_12 rfl fl_12_65 ?_
    refine vv_iload_n (i := 2) 26 hk dX12_becomes_25 rfl rfl rfl ?_
    refine vv_iload_n (i := 3) 27 hk dX12_becomes_26 rfl rfl rfl ?_
    refine vv_iconst 28 hk dX12_becomes_27 rfl ic_1 ?_
    refine vv_iand 29 hk dX12_becomes_28 rfl ?_
    refine vv_iconst 30 hk dX12_becomes_29 rfl ic_1 ?_
    refine vv_jn (fun t3 => (σ, 38, [some (rf G 86), none, some (.int a2), some (.int a3)], [(.int t3), (.int a2), (rf G 105)])) (fun t3 => ?_) (fun k38 hk38 => ?_)
    · skip
      refine vv_zast 39 hk he dX12_becomes_38 rfl la_105 sd_105 (fun σ4 => ?_)
      refine vv_aload_n (i := 0) 40 hk dX12_becomes_39 rfl rfl rfl ?_
      refine vv_getR 43 hk dX12_becomes_40 rfl la_86 rfl ci_12 rfl fl_12_68 ?_
      refine vv_iload_n (i := 2) 44 hk dX12_becomes_43 rfl rfl rfl ?_
      refine vv_iload_n (i := 3) 45 hk dX12_becomes_44 rfl rfl rfl ?_
      refine vv_iconst 46 hk dX12_becomes_45 rfl ic_1 ?_
      refine vv_jn (fun t5 => (σ4, 54, [some (rf G 86), none, none, none], [(.int t5), (.int a2), (rf G 106)])) (fun t5 => ?_) (fun k54 hk54 => ?_)
      · skip
        refine vv_zast 55 hk he dX12_becomes_54 rfl la_106 sd_106 (fun σ6 => ?_)
        exact hret _ _ _ dX12_becomes_55
      · skip
        refine vv_icmp_le 53 49 hk dX12_becomes_46 rfl rfl ?_ ?_
        · skip
          refine vv_iconst 54 hk dX12_becomes_53 rfl ic_0 ?_
          exact vv_le (ll_s rfl (ll_n (ll_n (ll_n ll_0)))) (hk54 (0 : Int32))
        · skip
          refine vv_iconst 50 hk dX12_becomes_49 rfl ic_1 ?_
          refine vv_goto 54 hk dX12_becomes_50 rfl ?_
          exact vv_le (ll_s rfl (ll_n (ll_n (ll_n ll_0)))) (hk54 (1 : Int32))
    · skip
      refine vv_icmp_ne 37 33 hk dX12_becomes_30 rfl rfl ?_ ?_
      · skip
        refine vv_iconst 34 hk dX12_becomes_33 rfl ic_1 ?_
        refine vv_goto 38 hk dX12_becomes_34 rfl ?_
        exact vv_le (ll_s rfl (ll_n (ll_s rfl (ll_s rfl ll_0)))) (hk38 (1 : Int32))
      · skip
        refine vv_iconst 38 hk dX12_becomes_37 rfl ic_0 ?_
        exact vv_le (ll_s rfl (ll_n (ll_s rfl (ll_s rfl ll_0)))) (hk38 (0 : Int32))
theorem c_X12_stateOf (G : GT) (a1 : Int32) (a2 : Int32) (σ : Hp) : CtI G false yX12_stateOf cX12_stateOf 3 (some .int) 0 [(rf G 86), (.int a1), (.int a2)] (rdI (f_X12_stateOf a1 a2 σ) σ) σ := by
  refine ctIr (L0 := [some (rf G 86), some (.int a1), some (.int a2)]) (by decide +kernel) rfl rfl rfl (fun κ hk he hret => ?_)
  have hk : KO G κ cX12_stateOf RX12 0 := hk
  refine vv_iload_n (i := 1) 1 hk dX12_stateOf_0 rfl rfl rfl ?_
  refine vv_jn (fun t1 => (σ, 50, [some (rf G 86), none, none], [(.int t1)])) (fun t1 => ?_) (fun k50 hk50 => ?_)
  · skip
    exact hret _ _ _ dX12_stateOf_50
  · skip
    refine vv_if_ne 21 4 hk dX12_stateOf_1 rfl rfl ?_ ?_
    · skip
      refine vv_aload_n (i := 0) 5 hk dX12_stateOf_4 rfl rfl rfl ?_
      refine vv_getR 8 hk dX12_stateOf_5 rfl la_86 rfl ci_12 rfl fl_12_61 ?_
      refine vv_iload_n (i := 2) 9 hk dX12_stateOf_8 rfl rfl rfl ?_
      refine vv_zald 10 hk he dX12_stateOf_9 rfl la_104 sd_104 (fun v2 => ?_)
      refine vv_if_eq 17 13 hk dX12_stateOf_10 rfl rfl ?_ ?_
      · skip
        refine vv_iconst 18 hk dX12_stateOf_17 rfl ic_0 ?_
        refine vv_goto 50 hk dX12_stateOf_18 rfl ?_
        exact vv_le (ll_s rfl (ll_n (ll_n ll_0))) (hk50 (0 : Int32))
      · skip
        refine vv_iconst 14 hk dX12_stateOf_13 rfl ic_1 ?_
        refine vv_goto 50 hk dX12_stateOf_14 rfl ?_
        exact vv_le (ll_s rfl (ll_n (ll_n ll_0))) (hk50 (1 : Int32))
    · skip
      refine vv_aload_n (i := 0) 22 hk dX12_stateOf_21 rfl rfl rfl ?_
      refine vv_getR 25 hk dX12_stateOf_22 rfl la_86 rfl ci_12 rfl fl_12_65 ?_
      refine vv_iload_n (i := 2) 26 hk dX12_stateOf_25 rfl rfl rfl ?_
      refine vv_zald 27 hk he dX12_stateOf_26 rfl la_105 sd_105 (fun v3 => ?_)
      refine vv_jn (fun t4 => (σ, 35, [some (rf G 86), none, some (.int a2)], [(.int t4)])) (fun t4 => ?_) (fun k35 hk35 => ?_)
      · skip
        refine vv_aload_n (i := 0) 36 hk dX12_stateOf_35 rfl rfl rfl ?_
        refine vv_getR 39 hk dX12_stateOf_36 rfl la_86 rfl ci_12 rfl fl_12_68 ?_
        refine vv_iload_n (i := 2) 40 hk dX12_stateOf_39 rfl rfl rfl ?_
        refine vv_zald 41 hk he dX12_stateOf_40 rfl la_106 sd_106 (fun v5 => ?_)
        refine vv_jn (fun t6 => (σ, 49, [some (rf G 86), none, none], [(.int t6), (.int t4)])) (fun t6 => ?_) (fun k49 hk49 => ?_)
        · skip
          refine vv_iadd 50 hk dX12_stateOf_49 rfl ?_
          exact vv_le (ll_s rfl (ll_n (ll_n ll_0))) (hk50 (t4 + t6))
        · skip
          refine vv_if_eq 48 44 hk dX12_stateOf_41 rfl rfl ?_ ?_
          · skip
            refine vv_iconst 49 hk dX12_stateOf_48 rfl ic_0 ?_
            exact vv_le (ll_s rfl (ll_n (ll_n ll_0))) (hk49 (0 : Int32))
          · skip
            refine vv_iconst 45 hk dX12_stateOf_44 rfl ic_2 ?_
            refine vv_goto 49 hk dX12_stateOf_45 rfl ?_
            exact vv_le (ll_s rfl (ll_n (ll_n ll_0))) (hk49 (2 : Int32))
      · skip
        refine vv_if_eq 34 30 hk dX12_stateOf_27 rfl rfl ?_ ?_
        · skip
          refine vv_iconst 35 hk dX12_stateOf_34 rfl ic_0 ?_
          exact vv_le (ll_s rfl (ll_n (ll_s rfl ll_0))) (hk35 (0 : Int32))
        · skip
          refine vv_iconst 31 hk dX12_stateOf_30 rfl ic_1 ?_
          refine vv_goto 35 hk dX12_stateOf_31 rfl ?_
          exact vv_le (ll_s rfl (ll_n (ll_s rfl ll_0))) (hk35 (1 : Int32))
theorem c_X12_acts (G : GT) (a1 : Int32) (a2 : Int32) (a3 : Int32) (σ : Hp) : CtI G false yX12_acts cX12_acts 5 (some .int) 1 [(rf G 86), (.int a1), (.int a2), (.int a3)] (f_X12_acts a1 a2 a3 σ) σ := by
  refine ctI (L0 := [some (rf G 86), some (.int a1), some (.int a2), some (.int a3), none]) (by decide +kernel) rfl rfl rfl (fun κ hk he hret => ?_)
  have hk : KO G κ cX12_acts RX12 1 := hk
  refine vv_aload_n (i := 0) 1 hk dX12_acts_0 rfl rfl rfl ?_
  refine vv_iconst 2 hk dX12_acts_1 rfl ic_0 ?_
  refine vv_putI 5 hk he dX12_acts_2 rfl la_86 rfl ci_12 rfl fl_12_379 sd_86 rfl rfl (fun σ1 => ?_)
  refine vv_aload_n (i := 0) 6 hk dX12_acts_5 rfl rfl rfl ?_
  refine vv_getI 9 hk he dX12_acts_6 rfl la_86 rfl ci_12 rfl fl_12_376 sd_86 ?_
  refine vv_bipush 11 hk dX12_acts_9 rfl bp_30 ?_
  refine vv_jn (fun t2 => (t2, 104, [some (rf G 86), some (.int a1), some (.int a2), some (.int a3), none], [])) (fun t2 => ?_) (fun k104 hk104 => ?_)
  · skip
    refine vv_aload_n (i := 0) 105 hk dX12_acts_104 rfl rfl rfl ?_
    refine vv_getR 108 hk dX12_acts_105 rfl la_86 rfl ci_12 rfl fl_12_116 ?_
    refine vv_aload_n (i := 0) 109 hk dX12_acts_108 rfl rfl rfl ?_
    refine vv_getI 112 hk he dX12_acts_109 rfl la_86 rfl ci_12 rfl fl_12_376 sd_86 ?_
    refine vv_iload_n (i := 1) 113 hk dX12_acts_112 rfl rfl rfl ?_
    refine vv_iast 114 hk he dX12_acts_113 rfl la_122 sd_122 (fun σ3 => ?_)
    refine vv_aload_n (i := 0) 115 hk dX12_acts_114 rfl rfl rfl ?_
    refine vv_getR 118 hk dX12_acts_115 rfl la_86 rfl ci_12 rfl fl_12_119 ?_
    refine vv_aload_n (i := 0) 119 hk dX12_acts_118 rfl rfl rfl ?_
    refine vv_getI 122 hk he dX12_acts_119 rfl la_86 rfl ci_12 rfl fl_12_376 sd_86 ?_
    refine vv_iload_n (i := 2) 123 hk dX12_acts_122 rfl rfl rfl ?_
    refine vv_iast 124 hk he dX12_acts_123 rfl la_123 sd_123 (fun σ4 => ?_)
    refine vv_aload_n (i := 0) 125 hk dX12_acts_124 rfl rfl rfl ?_
    refine vv_getR 128 hk dX12_acts_125 rfl la_86 rfl ci_12 rfl fl_12_122 ?_
    refine vv_aload_n (i := 0) 129 hk dX12_acts_128 rfl rfl rfl ?_
    refine vv_getI 132 hk he dX12_acts_129 rfl la_86 rfl ci_12 rfl fl_12_376 sd_86 ?_
    refine vv_aload_n (i := 0) 133 hk dX12_acts_132 rfl rfl rfl ?_
    refine vv_iload_n (i := 1) 134 hk dX12_acts_133 rfl rfl rfl ?_
    refine vv_iload_n (i := 2) 135 hk dX12_acts_134 rfl rfl rfl ?_
    refine vv_invIr (st := [(.int (σ4.1 86 50)), (rf G 124)]) 138 hk he dX12_acts_135 rfl ml_12_382 cf_X12_stateOf la_86 ci_12 (c_X12_stateOf G a1 a2 σ4) rfl rfl rfl rfl (fun v5 => ?_)
    refine vv_iast 139 hk he dX12_acts_138 rfl la_124 sd_124 (fun σ6 => ?_)
    refine vv_aload_n (i := 0) 140 hk dX12_acts_139 rfl rfl rfl ?_
    refine vv_getR 143 hk dX12_acts_140 rfl la_86 rfl ci_12 rfl fl_12_125 ?_
    refine vv_aload_n (i := 0) 144 hk dX12_acts_143 rfl rfl rfl ?_
    refine vv_getI 147 hk he dX12_acts_144 rfl la_86 rfl ci_12 rfl fl_12_376 sd_86 ?_
    refine vv_iload_n (i := 3) 148 hk dX12_acts_147 rfl rfl rfl ?_
    refine vv_iast 149 hk he dX12_acts_148 rfl la_125 sd_125 (fun σ7 => ?_)
    refine vv_aload_n (i := 0) 150 hk dX12_acts_149 rfl rfl rfl ?_
    refine vv_dup 151 hk dX12_acts_150 rfl rfl ?_
    refine vv_getI 154 hk he dX12_acts_151 rfl la_86 rfl ci_12 rfl fl_12_376 sd_86 ?_
    refine vv_iconst 155 hk dX12_acts_154 rfl ic_1 ?_
    refine vv_iadd 156 hk dX12_acts_155 rfl ?_
    refine vv_putI 159 hk he dX12_acts_156 rfl la_86 rfl ci_12 rfl fl_12_376 sd_86 rfl rfl (fun σ8 => ?_)
    refine vv_aload_n (i := 0) 160 hk dX12_acts_159 rfl rfl rfl ?_
    refine vv_iload_n (i := 1) 161 hk dX12_acts_160 rfl rfl rfl ?_
    refine vv_iload_n (i := 2) 162 hk dX12_acts_161 rfl rfl rfl ?_
    refine vv_iload_n (i := 3) 163 hk dX12_acts_162 rfl rfl rfl ?_
    refine vv_invV (st := []) 166 hk he dX12_acts_163 rfl ml_12_385 cf_X12_becomes la_86 ci_12 (c_X12_becomes G a1 a2 a3 σ8) rfl rfl rfl rfl (fun σ9 => ?_)
    refine vv_iconst 167 hk dX12_acts_166 rfl ic_1 ?_
    exact hret _ _ _ _ dX12_acts_167
  · skip
    refine vv_icmp_ne 104 14 hk dX12_acts_11 rfl rfl ?_ ?_
    · skip
      refine vv_iconst 15 hk dX12_acts_14 rfl ic_1 ?_
      refine vv_istore 17 [some (rf G 86), some (.int a1), some (.int a2), some (.int a3), some (.int (1 : Int32))] hk dX12_acts_15 rfl rfl rfl ?_
      refine vv_jn (fun t10 => (t10, 94, [some (rf G 86), some (.int a1), some (.int a2), some (.int a3), none], [])) (fun t10 => ?_) (fun k94 hk94 => ?_)
      · skip
        refine vv_aload_n (i := 0) 95 hk dX12_acts_94 rfl rfl rfl ?_
        refine vv_dup 96 hk dX12_acts_95 rfl rfl ?_
        refine vv_getI 99 hk he dX12_acts_96 rfl la_86 rfl ci_12 rfl fl_12_376 sd_86 ?_
        refine vv_iconst 100 hk dX12_acts_99 rfl ic_1 ?_
        refine vv_isub 101 hk dX12_acts_100 rfl ?_
        refine vv_putI 104 hk he dX12_acts_101 rfl la_86 rfl ci_12 rfl fl_12_376 sd_86 rfl rfl (fun σ11 => ?_)
        exact vv_le (ll_s rfl (ll_s rfl (ll_s rfl (ll_s rfl (ll_n ll_0))))) (hk104 σ11)
      · skip
        refine vv_lp (fun t12 => (t12.2, 17, [some (rf G 86), some (.int a1), some (.int a2), some (.int a3), some (.int t12.1)], [])) (fun kl17 hkl17 t12 => ?_) FU ((1 : Int32), σ1)
        refine vv_iload 19 hk dX12_acts_17 rfl rfl ?_
        refine vv_bipush 21 hk dX12_acts_19 rfl bp_30 ?_
        refine vv_icmp_ge 94 24 hk dX12_acts_21 rfl rfl ?_ ?_
        · skip
          exact vv_le (ll_s rfl (ll_s rfl (ll_s rfl (ll_s rfl (ll_n ll_0))))) (hk94 t12.2)
        · skip
          refine vv_aload_n (i := 0) 25 hk dX12_acts_24 rfl rfl rfl ?_
          refine vv_getR 28 hk dX12_acts_25 rfl la_86 rfl ci_12 rfl fl_12_116 ?_
          refine vv_iload 30 hk dX12_acts_28 rfl rfl ?_
          refine vv_iconst 31 hk dX12_acts_30 rfl ic_1 ?_
          refine vv_isub 32 hk dX12_acts_31 rfl ?_
          refine vv_aload_n (i := 0) 33 hk dX12_acts_32 rfl rfl rfl ?_
          refine vv_getR 36 hk dX12_acts_33 rfl la_86 rfl ci_12 rfl fl_12_116 ?_
          refine vv_iload 38 hk dX12_acts_36 rfl rfl ?_
          refine vv_iald 39 hk he dX12_acts_38 rfl la_122 sd_122 (fun v13 => ?_)
          refine vv_iast 40 hk he dX12_acts_39 rfl la_122 sd_122 (fun σ14 => ?_)
          refine vv_aload_n (i := 0) 41 hk dX12_acts_40 rfl rfl rfl ?_
          refine vv_getR 44 hk dX12_acts_41 rfl la_86 rfl ci_12 rfl fl_12_119 ?_
          refine vv_iload 46 hk dX12_acts_44 rfl rfl ?_
          refine vv_iconst 47 hk dX12_acts_46 rfl ic_1 ?_
          refine vv_isub 48 hk dX12_acts_47 rfl ?_
          refine vv_aload_n (i := 0) 49 hk dX12_acts_48 rfl rfl rfl ?_
          refine vv_getR 52 hk dX12_acts_49 rfl la_86 rfl ci_12 rfl fl_12_119 ?_
          refine vv_iload 54 hk dX12_acts_52 rfl rfl ?_
          refine vv_iald 55 hk he dX12_acts_54 rfl la_123 sd_123 (fun v15 => ?_)
          refine vv_iast 56 hk he dX12_acts_55 rfl la_123 sd_123 (fun σ16 => ?_)
          refine vv_aload_n (i := 0) 57 hk dX12_acts_56 rfl rfl rfl ?_
          refine vv_getR 60 hk dX12_acts_57 rfl la_86 rfl ci_12 rfl fl_12_122 ?_
          refine vv_iload 62 hk dX12_acts_60 rfl rfl ?_
          refine vv_iconst 63 hk dX12_acts_62 rfl ic_1 ?_
          refine vv_isub 64 hk dX12_acts_63 rfl ?_
          refine vv_aload_n (i := 0) 65 hk dX12_acts_64 rfl rfl rfl ?_
          refine vv_getR 68 hk dX12_acts_65 rfl la_86 rfl ci_12 rfl fl_12_122 ?_
          refine vv_iload 70 hk dX12_acts_68 rfl rfl ?_
          refine vv_iald 71 hk he dX12_acts_70 rfl la_124 sd_124 (fun v17 => ?_)
          refine vv_iast 72 hk he dX12_acts_71 rfl la_124 sd_124 (fun σ18 => ?_)
          refine vv_aload_n (i := 0) 73 hk dX12_acts_72 rfl rfl rfl ?_
          refine vv_getR 76 hk dX12_acts_73 rfl la_86 rfl ci_12 rfl fl_12_125 ?_
          refine vv_iload 78 hk dX12_acts_76 rfl rfl ?_
          refine vv_iconst 79 hk dX12_acts_78 rfl ic_1 ?_
          refine vv_isub 80 hk dX12_acts_79 rfl ?_
          refine vv_aload_n (i := 0) 81 hk dX12_acts_80 rfl rfl rfl ?_
          refine vv_getR 84 hk dX12_acts_81 rfl la_86 rfl ci_12 rfl fl_12_125 ?_
          refine vv_iload 86 hk dX12_acts_84 rfl rfl ?_
          refine vv_iald 87 hk he dX12_acts_86 rfl la_125 sd_125 (fun v19 => ?_)
          refine vv_iast 88 hk he dX12_acts_87 rfl la_125 sd_125 (fun σ20 => ?_)
          refine vv_iinc 91 (fun x21 => [some (rf G 86), some (.int a1), some (.int a2), some (.int a3), some (.int x21)]) hk dX12_acts_88 rfl rfl ic_1 (fun _ => rfl) (fun x21 => ?_)
          refine vv_goto 17 hk dX12_acts_91 rfl ?_
          exact vv_le (ll_s rfl (ll_s rfl (ll_s rfl (ll_s rfl (ll_s rfl ll_0))))) (hkl17 (x21, σ20))
    · skip
      exact vv_le (ll_s rfl (ll_s rfl (ll_s rfl (ll_s rfl (ll_n ll_0))))) (hk104 σ1)
theorem c_X12_isGas (G : GT) (a1 : Int32) (σ : Hp) : CtI G false yX12_isGas cX12_isGas 1 (some .boolean) 0 [(.int a1)] (rdI (f_X12_isGas a1) σ) σ := by
  refine ctZr (L0 := [some (.int a1)]) (by decide +kernel) rfl rfl rfl (fun κ hk he hret => ?_)
  have hk : KO G κ cX12_isGas RX12 0 := hk
  refine vv_iload_n (i := 0) 1 hk dX12_isGas_0 rfl rfl rfl ?_
  refine vv_jn (fun t1 => (σ, 14, [none], [(.int t1)])) (fun t1 => ?_) (fun k14 hk14 => ?_)
  · skip
    exact hret _ _ _ dX12_isGas_14
  · skip
    refine vv_jn (fun t2 => (σ, 13, [none], [])) (fun t2 => ?_) (fun k13 hk13 => ?_)
    · skip
      refine vv_iconst 14 hk dX12_isGas_13 rfl ic_0 ?_
      exact vv_le (ll_n ll_0) (hk14 (0 : Int32))
    · skip
      refine vv_if_lt 13 4 hk dX12_isGas_1 rfl rfl ?_ ?_
      · skip
        exact vv_le (ll_n ll_0) (hk13 ())
      · skip
        refine vv_iload_n (i := 0) 5 hk dX12_isGas_4 rfl rfl rfl ?_
        refine vv_iconst 6 hk dX12_isGas_5 rfl ic_3 ?_
        refine vv_icmp_ge 13 9 hk dX12_isGas_6 rfl rfl ?_ ?_
        · skip
          exact vv_le (ll_n ll_0) (hk13 ())
        · skip
          refine vv_iconst 10 hk dX12_isGas_9 rfl ic_1 ?_
          refine vv_goto 14 hk dX12_isGas_10 rfl ?_
          exact vv_le (ll_n ll_0) (hk14 (1 : Int32))
theorem c_X12_isIn (G : GT) (a1 : Int64) (a2 : Int64) (a3 : Int64) (σ : Hp) : CtI G false yX12_isIn cX12_isIn 6 (some .boolean) 0 [(.long a1), (.long a2), (.long a3)] (rdI (f_X12_isIn a1 a2 a3) σ) σ := by
  refine ctZr (L0 := [some (.long a1), none, some (.long a2), none, some (.long a3), none]) (by decide +kernel) rfl rfl rfl (fun κ hk he hret => ?_)
  have hk : KO G κ cX12_isIn RX12 0 := hk
  refine vv_lload_n (i := 0) 1 hk dX12_isIn_0 rfl rfl rfl ?_
  refine vv_lload_n (i := 2) 2 hk dX12_isIn_1 rfl rfl rfl ?_
  refine vv_lcmp 3 hk dX12_isIn_2 rfl ?_
  refine vv_jn (fun t1 => (σ, 18, [none, none, none, none, none, none], [(.int t1)])) (fun t1 => ?_) (fun k18 hk18 => ?_)
  · skip
    exact hret _ _ _ dX12_isIn_18
  · skip
    refine vv_jn (fun t2 => (σ, 17, [none, none, none, none, none, none], [])) (fun t2 => ?_) (fun k17 hk17 => ?_)
    · skip
      refine vv_iconst 18 hk dX12_isIn_17 rfl ic_0 ?_
      exact vv_le (ll_n (ll_n (ll_n (ll_n (ll_n (ll_n ll_0)))))) (hk18 (0 : Int32))
    · skip
      refine vv_if_lt 17 6 hk dX12_isIn_3 rfl rfl ?_ ?_
      · skip
        exact vv_le (ll_n (ll_n (ll_n (ll_n (ll_n (ll_n ll_0)))))) (hk17 ())
      · skip
        refine vv_lload_n (i := 0) 7 hk dX12_isIn_6 rfl rfl rfl ?_
        refine vv_lload 9 hk dX12_isIn_7 rfl rfl ?_
        refine vv_lcmp 10 hk dX12_isIn_9 rfl ?_
        refine vv_if_gt 17 13 hk dX12_isIn_10 rfl rfl ?_ ?_
        · skip
          exact vv_le (ll_n (ll_n (ll_n (ll_n (ll_n (ll_n ll_0)))))) (hk17 ())
        · skip
          refine vv_iconst 14 hk dX12_isIn_13 rfl ic_1 ?_
          refine vv_goto 18 hk dX12_isIn_14 rfl ?_
          exact vv_le (ll_n (ll_n (ll_n (ll_n (ll_n (ll_n ll_0)))))) (hk18 (1 : Int32))
theorem c_X12_no (G : GT) (a1 : Int32) (σ : Hp) : CtI G false yX12_no cX12_no 2 (some .int) 0 [(rf G 86), (.int a1)] (f_X12_no a1 σ) σ := by
  refine ctI (L0 := [some (rf G 86), some (.int a1)]) (by decide +kernel) rfl rfl rfl (fun κ hk he hret => ?_)
  have hk : KO G κ cX12_no RX12 0 := hk
  refine vv_aload_n (i := 0) 1 hk dX12_no_0 rfl rfl rfl ?_
  refine vv_getR 4 hk dX12_no_1 rfl la_86 rfl ci_12 rfl fl_12_7 ?_
  refine vv_iload_n (i := 1) 5 hk dX12_no_4 rfl rfl rfl ?_
  refine vv_ineg 6 hk dX12_no_5 rfl ?_
  refine vv_dup2 7 hk dX12_no_6 rfl rfl rfl ?_
  refine vv_iald 8 hk he dX12_no_7 rfl la_87 sd_87 (fun v1 => ?_)
  refine vv_iconst 9 hk dX12_no_8 rfl ic_1 ?_
  refine vv_iadd 10 hk dX12_no_9 rfl ?_
  refine vv_iast 11 hk he dX12_no_10 rfl la_87 sd_87 (fun σ2 => ?_)
  refine vv_iload_n (i := 1) 12 hk dX12_no_11 rfl rfl rfl ?_
  exact hret _ _ _ _ dX12_no_12
theorem c_X12_all (G : GT) (a1 : Int32) (a2 : Int32) (σ : Hp) : CtI G false yX12_all cX12_all 5 (some .int) 1 [(rf G 86), (.int a1), (.int a2)] (f_X12_all a1 a2 σ) σ := by
  refine ctI (L0 := [some (rf G 86), some (.int a1), some (.int a2), none, none]) (by decide +kernel) rfl rfl rfl (fun κ hk he hret => ?_)
  have hk : KO G κ cX12_all RX12 1 := hk
  refine vv_iload_n (i := 1) 1 hk dX12_all_0 rfl rfl rfl ?_
  refine vv_staIr (st := []) 4 hk he dX12_all_1 rfl ml_12_244 sf_X12_isGas (c_X12_isGas G a1 σ) rfl rfl rfl rfl (fun v1 => ?_)
  refine vv_if_ne 13 7 hk dX12_all_4 rfl rfl ?_ ?_
  · skip
    refine vv_aload_n (i := 0) 8 hk dX12_all_7 rfl rfl rfl ?_
    refine vv_iconst 9 hk dX12_all_8 rfl ic_m1 ?_
    refine vv_invI (st := []) 12 hk he dX12_all_9 rfl ml_12_226 cf_X12_no la_86 ci_12 (c_X12_no G (-1 : Int32) σ) rfl rfl rfl rfl (fun v2 σ3 => ?_)
    exact hret _ _ _ _ dX12_all_12
  · skip
    refine vv_iload_n (i := 2) 14 hk dX12_all_13 rfl rfl rfl ?_
    refine vv_i2l 15 hk dX12_all_14 rfl ?_
    refine vv_lconst 16 hk dX12_all_15 rfl lc_0 ?_
    refine vv_ldc2 19 hk dX12_all_16 rfl cw_12_300 ?_
    refine vv_staIr (st := []) 22 hk he dX12_all_19 rfl ml_12_222 sf_X12_isIn (c_X12_isIn G a2.toInt64 (0 : Int64) (4 : Int64) σ) rfl rfl rfl rfl (fun v4 => ?_)
    refine vv_if_ne 32 25 hk dX12_all_22 rfl rfl ?_ ?_
    · skip
      refine vv_aload_n (i := 0) 26 hk dX12_all_25 rfl rfl rfl ?_
      refine vv_bipush 28 hk dX12_all_26 rfl bp_m2 ?_
      refine vv_invI (st := []) 31 hk he dX12_all_28 rfl ml_12_226 cf_X12_no la_86 ci_12 (c_X12_no G (-2 : Int32) σ) rfl rfl rfl rfl (fun v5 σ6 => ?_)
      exact hret _ _ _ _ dX12_all_31
    · skip
      refine vv_iload_n (i := 2) 33 hk dX12_all_32 rfl rfl rfl ?_
      refine vv_iconst 34 hk dX12_all_33 rfl ic_2 ?_
      refine vv_icmp_ge 57 37 hk dX12_all_34 rfl rfl ?_ ?_
      · skip
        refine vv_iconst 58 hk dX12_all_57 rfl ic_0 ?_
        refine vv_istore_n (i := 3) 59 [some (rf G 86), some (.int a1), some (.int a2), some (.int (0 : Int32)), none] hk dX12_all_58 rfl rfl rfl rfl ?_
        refine vv_iconst 60 hk dX12_all_59 rfl ic_0 ?_
        refine vv_istore 62 [some (rf G 86), some (.int a1), some (.int a2), some (.int (0 : Int32)), some (.int (0 : Int32))] hk dX12_all_60 rfl rfl rfl ?_
        refine vv_jn (fun t7 => (σ, 115, [some (rf G 86), some (.int a1), some (.int a2), some (.int t7), none], [])) (fun t7 => ?_) (fun k115 hk115 => ?_)
        · skip
          refine vv_iconst 116 hk dX12_all_115 rfl ic_0 ?_
          refine vv_istore 118 [some (rf G 86), some (.int a1), some (.int a2), some (.int t7), some (.int (0 : Int32))] hk dX12_all_116 rfl rfl rfl ?_
          refine vv_lp (fun t8 => (σ, 118, [some (rf G 86), some (.int a1), some (.int a2), some (.int t8.1), some (.int t8.2)], [])) (fun kl118 hkl118 t8 => ?_) FU (t7, (0 : Int32))
          refine vv_iload 120 hk dX12_all_118 rfl rfl ?_
          refine vv_aload_n (i := 0) 121 hk dX12_all_120 rfl rfl rfl ?_
          refine vv_getI 124 hk he dX12_all_121 rfl la_86 rfl ci_12 rfl fl_12_217 sd_86 ?_
          refine vv_icmp_ge 166 127 hk dX12_all_124 rfl rfl ?_ ?_
          · skip
            refine vv_iload_n (i := 3) 167 hk dX12_all_166 rfl rfl rfl ?_
            exact hret _ _ _ _ dX12_all_167
          · skip
            refine vv_iload_n (i := 2) 128 hk dX12_all_127 rfl rfl rfl ?_
            refine vv_iconst 129 hk dX12_all_128 rfl ic_4 ?_
            refine vv_icmp_ne 166 132 hk dX12_all_129 rfl rfl ?_ ?_
            · skip
              refine vv_iload_n (i := 3) 133 hk dX12_all_132 rfl rfl rfl ?_
              refine vv_aload_n (i := 0) 134 hk dX12_all_133 rfl rfl rfl ?_
              refine vv_getR 137 hk dX12_all_134 rfl la_86 rfl ci_12 rfl fl_12_40 ?_
              refine vv_iload 139 hk dX12_all_137 rfl rfl ?_
              refine vv_iald 140 hk he dX12_all_139 rfl la_97 sd_97 (fun v9 => ?_)
              refine vv_jn (fun t10 => (σ, 158, [some (rf G 86), some (.int a1), some (.int a2), none, some (.int t8.2)], [(.int t10), (.int t8.1)])) (fun t10 => ?_) (fun k158 hk158 => ?_)
              · skip
                refine vv_iadd 159 hk dX12_all_158 rfl ?_
                refine vv_istore_nL (i := 3) 160 (fun x11 => [some (rf G 86), some (.int a1), some (.int a2), some (.int x11), some (.int t8.2)]) hk dX12_all_159 rfl rfl rfl (fun _ => rfl) (fun x11 => ?_)
                refine vv_iinc 163 (fun x12 => [some (rf G 86), some (.int a1), some (.int a2), some (.int x11), some (.int x12)]) hk dX12_all_160 rfl rfl ic_1 (fun _ => rfl) (fun x12 => ?_)
                refine vv_goto 118 hk dX12_all_163 rfl ?_
                exact vv_le (ll_s rfl (ll_s rfl (ll_s rfl (ll_s rfl (ll_s rfl ll_0))))) (hkl118 (x11, x12))
              · skip
                refine vv_if_le 157 143 hk dX12_all_140 rfl rfl ?_ ?_
                · skip
                  refine vv_iconst 158 hk dX12_all_157 rfl ic_0 ?_
                  exact vv_le (ll_s rfl (ll_s rfl (ll_s rfl (ll_n (ll_s rfl ll_0))))) (hk158 (0 : Int32))
                · skip
                  refine vv_aload_n (i := 0) 144 hk dX12_all_143 rfl rfl rfl ?_
                  refine vv_getR 147 hk dX12_all_144 rfl la_86 rfl ci_12 rfl fl_12_52 ?_
                  refine vv_iconst 148 hk dX12_all_147 rfl ic_3 ?_
                  refine vv_iload 150 hk dX12_all_148 rfl rfl ?_
                  refine vv_imul 151 hk dX12_all_150 rfl ?_
                  refine vv_iload_n (i := 1) 152 hk dX12_all_151 rfl rfl rfl ?_
                  refine vv_iadd 153 hk dX12_all_152 rfl ?_
                  refine vv_iald 154 hk he dX12_all_153 rfl la_101 sd_101 (fun v13 => ?_)
                  refine vv_goto 158 hk dX12_all_154 rfl ?_
                  exact vv_le (ll_s rfl (ll_s rfl (ll_s rfl (ll_n (ll_s rfl ll_0))))) (hk158 v13)
            · skip
              refine vv_iload_n (i := 3) 167 hk dX12_all_166 rfl rfl rfl ?_
              exact hret _ _ _ _ dX12_all_167
        · skip
          refine vv_lp (fun t14 => (σ, 62, [some (rf G 86), some (.int a1), some (.int a2), some (.int t14.1), some (.int t14.2)], [])) (fun kl62 hkl62 t14 => ?_) FU ((0 : Int32), (0 : Int32))
          refine vv_iload 64 hk dX12_all_62 rfl rfl ?_
          refine vv_aload_n (i := 0) 65 hk dX12_all_64 rfl rfl rfl ?_
          refine vv_getI 68 hk he dX12_all_65 rfl la_86 rfl ci_12 rfl fl_12_210 sd_86 ?_
          refine vv_icmp_ge 115 71 hk dX12_all_68 rfl rfl ?_ ?_
          · skip
            exact vv_le (ll_s rfl (ll_s rfl (ll_s rfl (ll_s rfl (ll_n ll_0))))) (hk115 t14.1)
          · skip
            refine vv_iload_n (i := 2) 72 hk dX12_all_71 rfl rfl rfl ?_
            refine vv_iconst 73 hk dX12_all_72 rfl ic_4 ?_
            refine vv_icmp_ge 115 76 hk dX12_all_73 rfl rfl ?_ ?_
            · skip
              exact vv_le (ll_s rfl (ll_s rfl (ll_s rfl (ll_s rfl (ll_n ll_0))))) (hk115 t14.1)
            · skip
              refine vv_iload_n (i := 3) 77 hk dX12_all_76 rfl rfl rfl ?_
              refine vv_iload_n (i := 2) 78 hk dX12_all_77 rfl rfl rfl ?_
              refine vv_iconst 79 hk dX12_all_78 rfl ic_2 ?_
              refine vv_jn (fun t15 => (σ, 107, [some (rf G 86), some (.int a1), some (.int a2), none, some (.int t14.2)], [(.int t15), (.int t14.1)])) (fun t15 => ?_) (fun k107 hk107 => ?_)
              · skip
                refine vv_iadd 108 hk dX12_all_107 rfl ?_
                refine vv_istore_nL (i := 3) 109 (fun x16 => [some (rf G 86), some (.int a1), some (.int a2), some (.int x16), some (.int t14.2)]) hk dX12_all_108 rfl rfl rfl (fun _ => rfl) (fun x16 => ?_)
                refine vv_iinc 112 (fun x17 => [some (rf G 86), some (.int a1), some (.int a2), some (.int x16), some (.int x17)]) hk dX12_all_109 rfl rfl ic_1 (fun _ => rfl) (fun x17 => ?_)
                refine vv_goto 62 hk dX12_all_112 rfl ?_
                exact vv_le (ll_s rfl (ll_s rfl (ll_s rfl (ll_s rfl (ll_s rfl ll_0))))) (hkl62 (x16, x17))
              · skip
                refine vv_icmp_ne 96 82 hk dX12_all_79 rfl rfl ?_ ?_
                · skip
                  refine vv_aload_n (i := 0) 83 hk dX12_all_82 rfl rfl rfl ?_
                  refine vv_getR 86 hk dX12_all_83 rfl la_86 rfl ci_12 rfl fl_12_46 ?_
                  refine vv_iconst 87 hk dX12_all_86 rfl ic_3 ?_
                  refine vv_iload 89 hk dX12_all_87 rfl rfl ?_
                  refine vv_imul 90 hk dX12_all_89 rfl ?_
                  refine vv_iload_n (i := 1) 91 hk dX12_all_90 rfl rfl rfl ?_
                  refine vv_iadd 92 hk dX12_all_91 rfl ?_
                  refine vv_iald 93 hk he dX12_all_92 rfl la_99 sd_99 (fun v18 => ?_)
                  refine vv_goto 107 hk dX12_all_93 rfl ?_
                  exact vv_le (ll_s rfl (ll_s rfl (ll_s rfl (ll_n (ll_s rfl ll_0))))) (hk107 v18)
                · skip
                  refine vv_aload_n (i := 0) 97 hk dX12_all_96 rfl rfl rfl ?_
                  refine vv_getR 100 hk dX12_all_97 rfl la_86 rfl ci_12 rfl fl_12_49 ?_
                  refine vv_iconst 101 hk dX12_all_100 rfl ic_3 ?_
                  refine vv_iload 103 hk dX12_all_101 rfl rfl ?_
                  refine vv_imul 104 hk dX12_all_103 rfl ?_
                  refine vv_iload_n (i := 1) 105 hk dX12_all_104 rfl rfl rfl ?_
                  refine vv_iadd 106 hk dX12_all_105 rfl ?_
                  refine vv_iald 107 hk he dX12_all_106 rfl la_100 sd_100 (fun v19 => ?_)
                  exact vv_le (ll_s rfl (ll_s rfl (ll_s rfl (ll_n (ll_s rfl ll_0))))) (hk107 v19)
      · skip
        refine vv_iload_n (i := 2) 38 hk dX12_all_37 rfl rfl rfl ?_
        refine vv_jn (fun t20 => (σ, 56, [some (rf G 86), none, none, none, none], [(.int t20)])) (fun t20 => ?_) (fun k56 hk56 => ?_)
        · skip
          exact hret _ _ _ _ dX12_all_56
        · skip
          refine vv_if_ne 50 41 hk dX12_all_38 rfl rfl ?_ ?_
          · skip
            refine vv_aload_n (i := 0) 42 hk dX12_all_41 rfl rfl rfl ?_
            refine vv_getR 45 hk dX12_all_42 rfl la_86 rfl ci_12 rfl fl_12_55 ?_
            refine vv_iload_n (i := 1) 46 hk dX12_all_45 rfl rfl rfl ?_
            refine vv_iald 47 hk he dX12_all_46 rfl la_102 sd_102 (fun v21 => ?_)
            refine vv_goto 56 hk dX12_all_47 rfl ?_
            exact vv_le (ll_s rfl (ll_n (ll_n (ll_n (ll_n ll_0))))) (hk56 v21)
          · skip
            refine vv_aload_n (i := 0) 51 hk dX12_all_50 rfl rfl rfl ?_
            refine vv_getR 54 hk dX12_all_51 rfl la_86 rfl ci_12 rfl fl_12_58 ?_
            refine vv_iload_n (i := 1) 55 hk dX12_all_54 rfl rfl rfl ?_
            refine vv_iald 56 hk he dX12_all_55 rfl la_103 sd_103 (fun v22 => ?_)
            exact vv_le (ll_s rfl (ll_n (ll_n (ll_n (ll_n ll_0))))) (hk56 v22)
theorem c_X12_anew (G : GT) (σ : Hp) : CtI G false yX12_anew cX12_anew 2 (some .int) 0 [(rf G 86)] (f_X12_anew σ) σ := by
  refine ctI (L0 := [some (rf G 86), none]) (by decide +kernel) rfl rfl rfl (fun κ hk he hret => ?_)
  have hk : KO G κ cX12_anew RX12 0 := hk
  refine vv_aload_n (i := 0) 1 hk dX12_anew_0 rfl rfl rfl ?_
  refine vv_getI 4 hk he dX12_anew_1 rfl la_86 rfl ci_12 rfl fl_12_446 sd_86 ?_
  refine vv_aload_n (i := 0) 5 hk dX12_anew_4 rfl rfl rfl ?_
  refine vv_getI 8 hk he dX12_anew_5 rfl la_86 rfl ci_12 rfl fl_12_449 sd_86 ?_
  refine vv_iadd 9 hk dX12_anew_8 rfl ?_
  refine vv_istore_nL (i := 1) 10 (fun x1 => [some (rf G 86), some (.int x1)]) hk dX12_anew_9 rfl rfl rfl (fun _ => rfl) (fun x1 => ?_)
  refine vv_aload_n (i := 0) 11 hk dX12_anew_10 rfl rfl rfl ?_
  refine vv_iconst 12 hk dX12_anew_11 rfl ic_0 ?_
  refine vv_putI 15 hk he dX12_anew_12 rfl la_86 rfl ci_12 rfl fl_12_446 sd_86 rfl rfl (fun σ2 => ?_)
  refine vv_aload_n (i := 0) 16 hk dX12_anew_15 rfl rfl rfl ?_
  refine vv_iconst 17 hk dX12_anew_16 rfl ic_0 ?_
  refine vv_putI 20 hk he dX12_anew_17 rfl la_86 rfl ci_12 rfl fl_12_449 sd_86 rfl rfl (fun σ3 => ?_)
  refine vv_iload_n (i := 1) 21 hk dX12_anew_20 rfl rfl rfl ?_
  exact hret _ _ _ _ dX12_anew_21
theorem c_X12_bits (G : GT) (a1 : Int32) (σ : Hp) : CtI G false yX12_bits cX12_bits 3 (some .int) 0 [(.int a1)] (rdI (f_X12_bits a1) σ) σ := by
  refine ctIr (L0 := [some (.int a1), none, none]) (by decide +kernel) rfl rfl rfl (fun κ hk he hret => ?_)
  have hk : KO G κ cX12_bits RX12 0 := hk
  refine vv_iconst 1 hk dX12_bits_0 rfl ic_0 ?_
  refine vv_istore_n (i := 1) 2 [some (.int a1), some (.int (0 : Int32)), none] hk dX12_bits_1 rfl rfl rfl rfl ?_
  refine vv_iconst 3 hk dX12_bits_2 rfl ic_0 ?_
  refine vv_istore_n (i := 2) 4 [some (.int a1), some (.int (0 : Int32)), some (.int (0 : Int32))] hk dX12_bits_3 rfl rfl rfl rfl ?_
  refine vv_lp (fun t1 => (σ, 4, [some (.int a1), some (.int t1.1), some (.int t1.2)], [])) (fun kl4 hkl4 t1 => ?_) FU ((0 : Int32), (0 : Int32))
  refine vv_iload_n (i := 2) 5 hk dX12_bits_4 rfl rfl rfl ?_
  refine vv_bipush 7 hk dX12_bits_5 rfl bp_31 ?_
  refine vv_icmp_ge 24 10 hk dX12_bits_7 rfl rfl ?_ ?_
  · skip
    refine vv_iload_n (i := 1) 25 hk dX12_bits_24 rfl rfl rfl ?_
    exact hret _ _ _ dX12_bits_25
  · skip
    refine vv_iload_n (i := 1) 11 hk dX12_bits_10 rfl rfl rfl ?_
    refine vv_iload_n (i := 0) 12 hk dX12_bits_11 rfl rfl rfl ?_
    refine vv_iload_n (i := 2) 13 hk dX12_bits_12 rfl rfl rfl ?_
    refine vv_ishr 14 hk dX12_bits_13 rfl ?_
    refine vv_iconst 15 hk dX12_bits_14 rfl ic_1 ?_
    refine vv_iand 16 hk dX12_bits_15 rfl ?_
    refine vv_iadd 17 hk dX12_bits_16 rfl ?_
    refine vv_istore_nL (i := 1) 18 (fun x2 => [some (.int a1), some (.int x2), some (.int t1.2)]) hk dX12_bits_17 rfl rfl rfl (fun _ => rfl) (fun x2 => ?_)
    refine vv_iinc 21 (fun x3 => [some (.int a1), some (.int x2), some (.int x3)]) hk dX12_bits_18 rfl rfl ic_1 (fun _ => rfl) (fun x3 => ?_)
    refine vv_goto 4 hk dX12_bits_21 rfl ?_
    exact vv_le (ll_s rfl (ll_s rfl (ll_s rfl ll_0))) (hkl4 (x2, x3))
theorem c_X12_closes (G : GT) (σ : Hp) : CtV G false yX12_closes cX12_closes 1 none 0 [(rf G 86)] (f_X12_closes σ) σ := by
  refine ctV (L0 := [some (rf G 86)]) (by decide +kernel) rfl rfl rfl (fun κ hk he hret => ?_)
  have hk : KO G κ cX12_closes RX12 0 := hk
  refine vv_lp (fun t1 => (t1, 0, [some (rf G 86)], [])) (fun kl0 hkl0 t1 => ?_) FU σ
  refine vv_aload_n (i := 0) 1 hk dX12_closes_0 rfl rfl rfl ?_
  refine vv_getI 4 hk he dX12_closes_1 rfl la_86 rfl ci_12 rfl fl_12_327 sd_86 ?_
  refine vv_if_le 35 7 hk dX12_closes_4 rfl rfl ?_ ?_
  · skip
    exact hret _ _ _ dX12_closes_35
  · skip
    refine vv_aload_n (i := 0) 8 hk dX12_closes_7 rfl rfl rfl ?_
    refine vv_getR 11 hk dX12_closes_8 rfl la_86 rfl ci_12 rfl fl_12_104 ?_
    refine vv_aload_n (i := 0) 12 hk dX12_closes_11 rfl rfl rfl ?_
    refine vv_getI 15 hk he dX12_closes_12 rfl la_86 rfl ci_12 rfl fl_12_327 sd_86 ?_
    refine vv_iconst 16 hk dX12_closes_15 rfl ic_1 ?_
    refine vv_isub 17 hk dX12_closes_16 rfl ?_
    refine vv_iald 18 hk he dX12_closes_17 rfl la_118 sd_118 (fun v2 => ?_)
    refine vv_iconst 19 hk dX12_closes_18 rfl ic_1 ?_
    refine vv_icmp_ne 35 22 hk dX12_closes_19 rfl rfl ?_ ?_
    · skip
      refine vv_aload_n (i := 0) 23 hk dX12_closes_22 rfl rfl rfl ?_
      refine vv_dup 24 hk dX12_closes_23 rfl rfl ?_
      refine vv_getI 27 hk he dX12_closes_24 rfl la_86 rfl ci_12 rfl fl_12_327 sd_86 ?_
      refine vv_iconst 28 hk dX12_closes_27 rfl ic_1 ?_
      refine vv_isub 29 hk dX12_closes_28 rfl ?_
      refine vv_putI 32 hk he dX12_closes_29 rfl la_86 rfl ci_12 rfl fl_12_327 sd_86 rfl rfl (fun σ3 => ?_)
      refine vv_goto 0 hk dX12_closes_32 rfl ?_
      exact vv_le (ll_s rfl ll_0) (hkl0 σ3)
    · skip
      exact hret _ _ _ dX12_closes_35
theorem c_X12_isPipe (G : GT) (a1 : Int32) (σ : Hp) : CtI G false yX12_isPipe cX12_isPipe 2 (some .boolean) 0 [(rf G 86), (.int a1)] (rdI (f_X12_isPipe a1 σ) σ) σ := by
  refine ctZr (L0 := [some (rf G 86), some (.int a1)]) (by decide +kernel) rfl rfl rfl (fun κ hk he hret => ?_)
  have hk : KO G κ cX12_isPipe RX12 0 := hk
  refine vv_iload_n (i := 1) 1 hk dX12_isPipe_0 rfl rfl rfl ?_
  refine vv_jn (fun t1 => (σ, 17, [some (rf G 86), none], [(.int t1)])) (fun t1 => ?_) (fun k17 hk17 => ?_)
  · skip
    exact hret _ _ _ dX12_isPipe_17
  · skip
    refine vv_jn (fun t2 => (σ, 16, [some (rf G 86), none], [])) (fun t2 => ?_) (fun k16 hk16 => ?_)
    · skip
      refine vv_iconst 17 hk dX12_isPipe_16 rfl ic_0 ?_
      exact vv_le (ll_s rfl (ll_n ll_0)) (hk17 (0 : Int32))
    · skip
      refine vv_if_lt 16 4 hk dX12_isPipe_1 rfl rfl ?_ ?_
      · skip
        exact vv_le (ll_s rfl (ll_n ll_0)) (hk16 ())
      · skip
        refine vv_iload_n (i := 1) 5 hk dX12_isPipe_4 rfl rfl rfl ?_
        refine vv_aload_n (i := 0) 6 hk dX12_isPipe_5 rfl rfl rfl ?_
        refine vv_getI 9 hk he dX12_isPipe_6 rfl la_86 rfl ci_12 rfl fl_12_214 sd_86 ?_
        refine vv_icmp_ge 16 12 hk dX12_isPipe_9 rfl rfl ?_ ?_
        · skip
          exact vv_le (ll_s rfl (ll_n ll_0)) (hk16 ())
        · skip
          refine vv_iconst 13 hk dX12_isPipe_12 rfl ic_1 ?_
          refine vv_goto 17 hk dX12_isPipe_13 rfl ?_
          exact vv_le (ll_s rfl (ll_n ll_0)) (hk17 (1 : Int32))
theorem c_X12_isPump (G : GT) (a1 : Int32) (σ : Hp) : CtI G false yX12_isPump cX12_isPump 2 (some .boolean) 0 [(rf G 86), (.int a1)] (rdI (f_X12_isPump a1 σ) σ) σ := by
  refine ctZr (L0 := [some (rf G 86), some (.int a1)]) (by decide +kernel) rfl rfl rfl (fun κ hk he hret => ?_)
  have hk : KO G κ cX12_isPump RX12 0 := hk
  refine vv_iload_n (i := 1) 1 hk dX12_isPump_0 rfl rfl rfl ?_
  refine vv_jn (fun t1 => (σ, 17, [some (rf G 86), none], [(.int t1)])) (fun t1 => ?_) (fun k17 hk17 => ?_)
  · skip
    exact hret _ _ _ dX12_isPump_17
  · skip
    refine vv_jn (fun t2 => (σ, 16, [some (rf G 86), none], [])) (fun t2 => ?_) (fun k16 hk16 => ?_)
    · skip
      refine vv_iconst 17 hk dX12_isPump_16 rfl ic_0 ?_
      exact vv_le (ll_s rfl (ll_n ll_0)) (hk17 (0 : Int32))
    · skip
      refine vv_if_lt 16 4 hk dX12_isPump_1 rfl rfl ?_ ?_
      · skip
        exact vv_le (ll_s rfl (ll_n ll_0)) (hk16 ())
      · skip
        refine vv_iload_n (i := 1) 5 hk dX12_isPump_4 rfl rfl rfl ?_
        refine vv_aload_n (i := 0) 6 hk dX12_isPump_5 rfl rfl rfl ?_
        refine vv_getI 9 hk he dX12_isPump_6 rfl la_86 rfl ci_12 rfl fl_12_217 sd_86 ?_
        refine vv_icmp_ge 16 12 hk dX12_isPump_9 rfl rfl ?_ ?_
        · skip
          exact vv_le (ll_s rfl (ll_n ll_0)) (hk16 ())
        · skip
          refine vv_iconst 13 hk dX12_isPump_12 rfl ic_1 ?_
          refine vv_goto 17 hk dX12_isPump_13 rfl ?_
          exact vv_le (ll_s rfl (ll_n ll_0)) (hk17 (1 : Int32))
theorem c_X12_isRoom (G : GT) (a1 : Int32) (σ : Hp) : CtI G false yX12_isRoom cX12_isRoom 2 (some .boolean) 0 [(rf G 86), (.int a1)] (rdI (f_X12_isRoom a1 σ) σ) σ := by
  refine ctZr (L0 := [some (rf G 86), some (.int a1)]) (by decide +kernel) rfl rfl rfl (fun κ hk he hret => ?_)
  have hk : KO G κ cX12_isRoom RX12 0 := hk
  refine vv_iload_n (i := 1) 1 hk dX12_isRoom_0 rfl rfl rfl ?_
  refine vv_jn (fun t1 => (σ, 17, [some (rf G 86), none], [(.int t1)])) (fun t1 => ?_) (fun k17 hk17 => ?_)
  · skip
    exact hret _ _ _ dX12_isRoom_17
  · skip
    refine vv_jn (fun t2 => (σ, 16, [some (rf G 86), none], [])) (fun t2 => ?_) (fun k16 hk16 => ?_)
    · skip
      refine vv_iconst 17 hk dX12_isRoom_16 rfl ic_0 ?_
      exact vv_le (ll_s rfl (ll_n ll_0)) (hk17 (0 : Int32))
    · skip
      refine vv_if_lt 16 4 hk dX12_isRoom_1 rfl rfl ?_ ?_
      · skip
        exact vv_le (ll_s rfl (ll_n ll_0)) (hk16 ())
      · skip
        refine vv_iload_n (i := 1) 5 hk dX12_isRoom_4 rfl rfl rfl ?_
        refine vv_aload_n (i := 0) 6 hk dX12_isRoom_5 rfl rfl rfl ?_
        refine vv_getI 9 hk he dX12_isRoom_6 rfl la_86 rfl ci_12 rfl fl_12_210 sd_86 ?_
        refine vv_icmp_ge 16 12 hk dX12_isRoom_9 rfl rfl ?_ ?_
        · skip
          exact vv_le (ll_s rfl (ll_n ll_0)) (hk16 ())
        · skip
          refine vv_iconst 13 hk dX12_isRoom_12 rfl ic_1 ?_
          refine vv_goto 17 hk dX12_isRoom_13 rfl ?_
          exact vv_le (ll_s rfl (ll_n ll_0)) (hk17 (1 : Int32))
theorem c_X12_least (G : GT) (a1 : Int64) (σ : Hp) : CtI G false yX12_least cX12_least 2 (some .int) 0 [(.long a1)] (rdI (f_X12_least a1) σ) σ := by
  refine ctIr (L0 := [some (.long a1), none]) (by decide +kernel) rfl rfl rfl (fun κ hk he hret => ?_)
  have hk : KO G κ cX12_least RX12 0 := hk
  refine vv_lload_n (i := 0) 1 hk dX12_least_0 rfl rfl rfl ?_
  refine vv_ldc2 4 hk dX12_least_1 rfl cw_12_207 ?_
  refine vv_lcmp 5 hk dX12_least_4 rfl ?_
  refine vv_jn (fun t1 => (σ, 15, [none, none], [(.int t1)])) (fun t1 => ?_) (fun k15 hk15 => ?_)
  · skip
    exact hret _ _ _ dX12_least_15
  · skip
    refine vv_if_le 13 8 hk dX12_least_5 rfl rfl ?_ ?_
    · skip
      refine vv_lload_n (i := 0) 14 hk dX12_least_13 rfl rfl rfl ?_
      refine vv_l2i 15 hk dX12_least_14 rfl ?_
      exact vv_le (ll_n (ll_n ll_0)) (hk15 a1.toInt32)
    · skip
      refine vv_ldc 10 hk dX12_least_8 rfl cw_12_209 ?_
      refine vv_goto 15 hk dX12_least_10 rfl ?_
      exact vv_le (ll_n (ll_n ll_0)) (hk15 (2000000000 : Int32))
theorem c_X12_push (G : GT) (a1 : Int32) (σ : Hp) : CtI G false yX12_push cX12_push 4 (some .int) 1 [(rf G 86), (.int a1)] (rdI (f_X12_push a1 σ) σ) σ := by
  refine ctIr (L0 := [some (rf G 86), some (.int a1), none, none]) (by decide +kernel) rfl rfl rfl (fun κ hk he hret => ?_)
  have hk : KO G κ cX12_push RX12 1 := hk
  refine vv_aload_n (i := 0) 1 hk dX12_push_0 rfl rfl rfl ?_
  refine vv_getR 4 hk dX12_push_1 rfl la_86 rfl ci_12 rfl fl_12_46 ?_
  refine vv_iconst 5 hk dX12_push_4 rfl ic_3 ?_
  refine vv_iload_n (i := 1) 6 hk dX12_push_5 rfl rfl rfl ?_
  refine vv_imul 7 hk dX12_push_6 rfl ?_
  refine vv_iald 8 hk he dX12_push_7 rfl la_99 sd_99 (fun v1 => ?_)
  refine vv_i2l 9 hk dX12_push_8 rfl ?_
  refine vv_aload_n (i := 0) 10 hk dX12_push_9 rfl rfl rfl ?_
  refine vv_getR 13 hk dX12_push_10 rfl la_86 rfl ci_12 rfl fl_12_46 ?_
  refine vv_iconst 14 hk dX12_push_13 rfl ic_3 ?_
  refine vv_iload_n (i := 1) 15 hk dX12_push_14 rfl rfl rfl ?_
  refine vv_imul 16 hk dX12_push_15 rfl ?_
  refine vv_iconst 17 hk dX12_push_16 rfl ic_1 ?_
  refine vv_iadd 18 hk dX12_push_17 rfl ?_
  refine vv_iald 19 hk he dX12_push_18 rfl la_99 sd_99 (fun v2 => ?_)
  refine vv_i2l 20 hk dX12_push_19 rfl ?_
  refine vv_ladd 21 hk dX12_push_20 rfl ?_
  refine vv_aload_n (i := 0) 22 hk dX12_push_21 rfl rfl rfl ?_
  refine vv_getR 25 hk dX12_push_22 rfl la_86 rfl ci_12 rfl fl_12_46 ?_
  refine vv_iconst 26 hk dX12_push_25 rfl ic_3 ?_
  refine vv_iload_n (i := 1) 27 hk dX12_push_26 rfl rfl rfl ?_
  refine vv_imul 28 hk dX12_push_27 rfl ?_
  refine vv_iconst 29 hk dX12_push_28 rfl ic_2 ?_
  refine vv_iadd 30 hk dX12_push_29 rfl ?_
  refine vv_iald 31 hk he dX12_push_30 rfl la_99 sd_99 (fun v3 => ?_)
  refine vv_i2l 32 hk dX12_push_31 rfl ?_
  refine vv_ladd 33 hk dX12_push_32 rfl ?_
  refine vv_lstore_nL (i := 2) 34 (fun x4 => [some (rf G 86), some (.int a1), some (.long x4), none]) hk dX12_push_33 rfl rfl rfl (fun _ => rfl) (fun x4 => ?_)
  refine vv_ldc2 37 hk dX12_push_34 rfl cw_12_255 ?_
  refine vv_lload_n (i := 2) 38 hk dX12_push_37 rfl rfl rfl ?_
  refine vv_lmul 39 hk dX12_push_38 rfl ?_
  refine vv_aload_n (i := 0) 40 hk dX12_push_39 rfl rfl rfl ?_
  refine vv_getR 43 hk dX12_push_40 rfl la_86 rfl ci_12 rfl fl_12_13 ?_
  refine vv_iload_n (i := 1) 44 hk dX12_push_43 rfl rfl rfl ?_
  refine vv_iald 45 hk he dX12_push_44 rfl la_88 sd_88 (fun v5 => ?_)
  refine vv_i2l 46 hk dX12_push_45 rfl ?_
  refine vv_ldiv 47 hk dX12_push_46 rfl ?_
  refine vv_staIr (st := []) 50 hk he dX12_push_47 rfl ml_12_286 sf_X12_least (c_X12_least G (((100 : Int64) * x4) / v5.toInt64) σ) rfl rfl rfl rfl (fun v6 => ?_)
  exact hret _ _ _ dX12_push_50
theorem c_X12_fact (G : GT) (a1 : Int32) (a2 : Int32) (σ : Hp) : CtI G false yX12_fact cX12_fact 3 (some .int) 2 [(rf G 86), (.int a1), (.int a2)] (rdI (f_X12_fact a1 a2 σ) σ) σ := by
  refine ctIr (L0 := [some (rf G 86), some (.int a1), some (.int a2)]) (by decide +kernel) rfl rfl rfl (fun κ hk he hret => ?_)
  have hk : KO G κ cX12_fact RX12 2 := hk
  refine vv_iload_n (i := 1) 1 hk dX12_fact_0 rfl rfl rfl ?_
  refine vv_case (fun h0 => ?_) (fun h0 => ?_)
  · skip
    refine vv_tabIn 108 hk dX12_fact_1 (by rw [h0]; decide +kernel) (by rw [h0]; decide +kernel) (off := 107) (by rw [h0]; decide +kernel) rfl ?_
    refine vv_aload_n (i := 0) 109 hk dX12_fact_108 rfl rfl rfl ?_
    refine vv_iload_n (i := 2) 110 hk dX12_fact_109 rfl rfl rfl ?_
    refine vv_invIr (st := []) 113 hk he dX12_fact_110 rfl ml_12_295 cf_X12_isPump la_86 ci_12 (c_X12_isPump G a2 σ) rfl rfl rfl rfl (fun v1 => ?_)
    refine vv_jn (fun t2 => (σ, 130, [some (rf G 86), none, none], [(.int t2)])) (fun t2 => ?_) (fun k130 hk130 => ?_)
    · skip
      exact hret _ _ _ dX12_fact_130
    · skip
      refine vv_jn (fun t3 => (σ, 129, [some (rf G 86), none, none], [])) (fun t3 => ?_) (fun k129 hk129 => ?_)
      · skip
        refine vv_iconst 130 hk dX12_fact_129 rfl ic_0 ?_
        exact vv_le (ll_s rfl (ll_n (ll_n ll_0))) (hk130 (0 : Int32))
      · skip
        refine vv_if_eq 129 116 hk dX12_fact_113 rfl rfl ?_ ?_
        · skip
          exact vv_le (ll_s rfl (ll_n (ll_n ll_0))) (hk129 ())
        · skip
          refine vv_aload_n (i := 0) 117 hk dX12_fact_116 rfl rfl rfl ?_
          refine vv_getR 120 hk dX12_fact_117 rfl la_86 rfl ci_12 rfl fl_12_65 ?_
          refine vv_iload_n (i := 2) 121 hk dX12_fact_120 rfl rfl rfl ?_
          refine vv_zald 122 hk he dX12_fact_121 rfl la_105 sd_105 (fun v4 => ?_)
          refine vv_if_eq 129 125 hk dX12_fact_122 rfl rfl ?_ ?_
          · skip
            exact vv_le (ll_s rfl (ll_n (ll_n ll_0))) (hk129 ())
          · skip
            refine vv_iconst 126 hk dX12_fact_125 rfl ic_1 ?_
            refine vv_goto 130 hk dX12_fact_126 rfl ?_
            exact vv_le (ll_s rfl (ll_n (ll_n ll_0))) (hk130 (1 : Int32))
  · skip
    refine vv_case (fun h1 => ?_) (fun h1 => ?_)
    · skip
      refine vv_tabIn 131 hk dX12_fact_1 (by rw [h1]; decide +kernel) (by rw [h1]; decide +kernel) (off := 130) (by rw [h1]; decide +kernel) rfl ?_
      refine vv_aload_n (i := 0) 132 hk dX12_fact_131 rfl rfl rfl ?_
      refine vv_getI 135 hk he dX12_fact_132 rfl la_86 rfl ci_12 rfl fl_12_280 sd_86 ?_
      exact hret _ _ _ dX12_fact_135
    · skip
      refine vv_case (fun h2 => ?_) (fun h2 => ?_)
      · skip
        refine vv_tabIn 48 hk dX12_fact_1 (by rw [h2]; decide +kernel) (by rw [h2]; decide +kernel) (off := 47) (by rw [h2]; decide +kernel) rfl ?_
        refine vv_aload_n (i := 0) 49 hk dX12_fact_48 rfl rfl rfl ?_
        refine vv_iload_n (i := 2) 50 hk dX12_fact_49 rfl rfl rfl ?_
        refine vv_invIr (st := []) 53 hk he dX12_fact_50 rfl ml_12_238 cf_X12_isRoom la_86 ci_12 (c_X12_isRoom G a2 σ) rfl rfl rfl rfl (fun v5 => ?_)
        refine vv_jn (fun t6 => (σ, 65, [some (rf G 86), none, none], [(.int t6)])) (fun t6 => ?_) (fun k65 hk65 => ?_)
        · skip
          exact hret _ _ _ dX12_fact_65
        · skip
          refine vv_if_eq 64 56 hk dX12_fact_53 rfl rfl ?_ ?_
          · skip
            refine vv_iconst 65 hk dX12_fact_64 rfl ic_0 ?_
            exact vv_le (ll_s rfl (ll_n (ll_n ll_0))) (hk65 (0 : Int32))
          · skip
            refine vv_aload_n (i := 0) 57 hk dX12_fact_56 rfl rfl rfl ?_
            refine vv_iload_n (i := 2) 58 hk dX12_fact_57 rfl rfl rfl ?_
            refine vv_invIr (st := []) 61 hk he dX12_fact_58 rfl ml_12_292 cf_X12_push la_86 ci_12 (c_X12_push G a2 σ) rfl rfl rfl rfl (fun v7 => ?_)
            refine vv_goto 65 hk dX12_fact_61 rfl ?_
            exact vv_le (ll_s rfl (ll_n (ll_n ll_0))) (hk65 v7)
      · skip
        refine vv_case (fun h3 => ?_) (fun h3 => ?_)
        · skip
          refine vv_tabIn 131 hk dX12_fact_1 (by rw [h3]; decide +kernel) (by rw [h3]; decide +kernel) (off := 130) (by rw [h3]; decide +kernel) rfl ?_
          refine vv_aload_n (i := 0) 132 hk dX12_fact_131 rfl rfl rfl ?_
          refine vv_getI 135 hk he dX12_fact_132 rfl la_86 rfl ci_12 rfl fl_12_280 sd_86 ?_
          exact hret _ _ _ dX12_fact_135
        · skip
          refine vv_case (fun h4 => ?_) (fun h4 => ?_)
          · skip
            refine vv_tabIn 131 hk dX12_fact_1 (by rw [h4]; decide +kernel) (by rw [h4]; decide +kernel) (off := 130) (by rw [h4]; decide +kernel) rfl ?_
            refine vv_aload_n (i := 0) 132 hk dX12_fact_131 rfl rfl rfl ?_
            refine vv_getI 135 hk he dX12_fact_132 rfl la_86 rfl ci_12 rfl fl_12_280 sd_86 ?_
            exact hret _ _ _ dX12_fact_135
          · skip
            refine vv_case (fun h5 => ?_) (fun h5 => ?_)
            · skip
              refine vv_tabIn 131 hk dX12_fact_1 (by rw [h5]; decide +kernel) (by rw [h5]; decide +kernel) (off := 130) (by rw [h5]; decide +kernel) rfl ?_
              refine vv_aload_n (i := 0) 132 hk dX12_fact_131 rfl rfl rfl ?_
              refine vv_getI 135 hk he dX12_fact_132 rfl la_86 rfl ci_12 rfl fl_12_280 sd_86 ?_
              exact hret _ _ _ dX12_fact_135
            · skip
              refine vv_case (fun h6 => ?_) (fun h6 => ?_)
              · skip
                refine vv_tabIn 85 hk dX12_fact_1 (by rw [h6]; decide +kernel) (by rw [h6]; decide +kernel) (off := 84) (by rw [h6]; decide +kernel) rfl ?_
                refine vv_aload_n (i := 0) 86 hk dX12_fact_85 rfl rfl rfl ?_
                refine vv_iload_n (i := 2) 87 hk dX12_fact_86 rfl rfl rfl ?_
                refine vv_invIr (st := []) 90 hk he dX12_fact_87 rfl ml_12_342 cf_X12_isPipe la_86 ci_12 (c_X12_isPipe G a2 σ) rfl rfl rfl rfl (fun v8 => ?_)
                refine vv_jn (fun t9 => (σ, 107, [some (rf G 86), none, none], [(.int t9)])) (fun t9 => ?_) (fun k107 hk107 => ?_)
                · skip
                  exact hret _ _ _ dX12_fact_107
                · skip
                  refine vv_jn (fun t10 => (σ, 106, [some (rf G 86), none, none], [])) (fun t10 => ?_) (fun k106 hk106 => ?_)
                  · skip
                    refine vv_iconst 107 hk dX12_fact_106 rfl ic_0 ?_
                    exact vv_le (ll_s rfl (ll_n (ll_n ll_0))) (hk107 (0 : Int32))
                  · skip
                    refine vv_if_eq 106 93 hk dX12_fact_90 rfl rfl ?_ ?_
                    · skip
                      exact vv_le (ll_s rfl (ll_n (ll_n ll_0))) (hk106 ())
                    · skip
                      refine vv_aload_n (i := 0) 94 hk dX12_fact_93 rfl rfl rfl ?_
                      refine vv_getR 97 hk dX12_fact_94 rfl la_86 rfl ci_12 rfl fl_12_61 ?_
                      refine vv_iload_n (i := 2) 98 hk dX12_fact_97 rfl rfl rfl ?_
                      refine vv_zald 99 hk he dX12_fact_98 rfl la_104 sd_104 (fun v11 => ?_)
                      refine vv_if_eq 106 102 hk dX12_fact_99 rfl rfl ?_ ?_
                      · skip
                        exact vv_le (ll_s rfl (ll_n (ll_n ll_0))) (hk106 ())
                      · skip
                        refine vv_iconst 103 hk dX12_fact_102 rfl ic_1 ?_
                        refine vv_goto 107 hk dX12_fact_103 rfl ?_
                        exact vv_le (ll_s rfl (ll_n (ll_n ll_0))) (hk107 (1 : Int32))
              · skip
                refine vv_case (fun h7 => ?_) (fun h7 => ?_)
                · skip
                  refine vv_tabIn 66 hk dX12_fact_1 (by rw [h7]; decide +kernel) (by rw [h7]; decide +kernel) (off := 65) (by rw [h7]; decide +kernel) rfl ?_
                  refine vv_aload_n (i := 0) 67 hk dX12_fact_66 rfl rfl rfl ?_
                  refine vv_iload_n (i := 2) 68 hk dX12_fact_67 rfl rfl rfl ?_
                  refine vv_invIr (st := []) 71 hk he dX12_fact_68 rfl ml_12_238 cf_X12_isRoom la_86 ci_12 (c_X12_isRoom G a2 σ) rfl rfl rfl rfl (fun v12 => ?_)
                  refine vv_jn (fun t13 => (σ, 84, [some (rf G 86), none, none], [(.int t13)])) (fun t13 => ?_) (fun k84 hk84 => ?_)
                  · skip
                    exact hret _ _ _ dX12_fact_84
                  · skip
                    refine vv_if_eq 83 74 hk dX12_fact_71 rfl rfl ?_ ?_
                    · skip
                      refine vv_iconst 84 hk dX12_fact_83 rfl ic_0 ?_
                      exact vv_le (ll_s rfl (ll_n (ll_n ll_0))) (hk84 (0 : Int32))
                    · skip
                      refine vv_aload_n (i := 0) 75 hk dX12_fact_74 rfl rfl rfl ?_
                      refine vv_getR 78 hk dX12_fact_75 rfl la_86 rfl ci_12 rfl fl_12_19 ?_
                      refine vv_iload_n (i := 2) 79 hk dX12_fact_78 rfl rfl rfl ?_
                      refine vv_iald 80 hk he dX12_fact_79 rfl la_90 sd_90 (fun v14 => ?_)
                      refine vv_goto 84 hk dX12_fact_80 rfl ?_
                      exact vv_le (ll_s rfl (ll_n (ll_n ll_0))) (hk84 v14)
                · skip
                  refine vv_tabOut 131 hk dX12_fact_1 (by have q0 := ne_int h0; have q1 := ne_int h1; have q2 := ne_int h2; have q3 := ne_int h3; have q4 := ne_int h4; have q5 := ne_int h5; have q6 := ne_int h6; have q7 := ne_int h7; rw [ti_112] at q0; rw [ti_113] at q1; rw [ti_114] at q2; rw [ti_115] at q3; rw [ti_116] at q4; rw [ti_117] at q5; rw [ti_118] at q6; rw [ti_119] at q7; omega) rfl ?_
                  refine vv_aload_n (i := 0) 132 hk dX12_fact_131 rfl rfl rfl ?_
                  refine vv_getI 135 hk he dX12_fact_132 rfl la_86 rfl ci_12 rfl fl_12_280 sd_86 ?_
                  exact hret _ _ _ dX12_fact_135
theorem c_X12_isDigit (G : GT) (a1 : Int32) (σ : Hp) : CtI G false yX12_isDigit cX12_isDigit 1 (some .boolean) 0 [(.int a1)] (rdI (f_X12_isDigit a1) σ) σ := by
  refine ctZr (L0 := [some (.int a1)]) (by decide +kernel) rfl rfl rfl (fun κ hk he hret => ?_)
  have hk : KO G κ cX12_isDigit RX12 0 := hk
  refine vv_iload_n (i := 0) 1 hk dX12_isDigit_0 rfl rfl rfl ?_
  refine vv_bipush 3 hk dX12_isDigit_1 rfl bp_48 ?_
  refine vv_jn (fun t1 => (σ, 17, [none], [(.int t1)])) (fun t1 => ?_) (fun k17 hk17 => ?_)
  · skip
    exact hret _ _ _ dX12_isDigit_17
  · skip
    refine vv_jn (fun t2 => (σ, 16, [none], [])) (fun t2 => ?_) (fun k16 hk16 => ?_)
    · skip
      refine vv_iconst 17 hk dX12_isDigit_16 rfl ic_0 ?_
      exact vv_le (ll_n ll_0) (hk17 (0 : Int32))
    · skip
      refine vv_icmp_lt 16 6 hk dX12_isDigit_3 rfl rfl ?_ ?_
      · skip
        exact vv_le (ll_n ll_0) (hk16 ())
      · skip
        refine vv_iload_n (i := 0) 7 hk dX12_isDigit_6 rfl rfl rfl ?_
        refine vv_bipush 9 hk dX12_isDigit_7 rfl bp_57 ?_
        refine vv_icmp_gt 16 12 hk dX12_isDigit_9 rfl rfl ?_ ?_
        · skip
          exact vv_le (ll_n ll_0) (hk16 ())
        · skip
          refine vv_iconst 13 hk dX12_isDigit_12 rfl ic_1 ?_
          refine vv_goto 17 hk dX12_isDigit_13 rfl ?_
          exact vv_le (ll_n ll_0) (hk17 (1 : Int32))
theorem c_X12_signOf (G : GT) (a1 : Int32) (σ : Hp) : CtI G false yX12_signOf cX12_signOf 2 (some .int) 0 [(rf G 86), (.int a1)] (rdI (f_X12_signOf a1 σ) σ) σ := by
  refine ctIr (L0 := [some (rf G 86), some (.int a1)]) (by decide +kernel) rfl rfl rfl (fun κ hk he hret => ?_)
  have hk : KO G κ cX12_signOf RX12 0 := hk
  refine vv_aload_n (i := 0) 1 hk dX12_signOf_0 rfl rfl rfl ?_
  refine vv_getI 4 hk he dX12_signOf_1 rfl la_86 rfl ci_12 rfl fl_12_345 sd_86 ?_
  refine vv_aload_n (i := 0) 5 hk dX12_signOf_4 rfl rfl rfl ?_
  refine vv_getR 8 hk dX12_signOf_5 rfl la_86 rfl ci_12 rfl fl_12_101 ?_
  refine vv_iload_n (i := 1) 9 hk dX12_signOf_8 rfl rfl rfl ?_
  refine vv_iald 10 hk he dX12_signOf_9 rfl la_117 sd_117 (fun v1 => ?_)
  refine vv_jn (fun t2 => (σ, 31, [some (rf G 86), none], [(.int t2)])) (fun t2 => ?_) (fun k31 hk31 => ?_)
  · skip
    exact hret _ _ _ dX12_signOf_31
  · skip
    refine vv_icmp_ge 30 13 hk dX12_signOf_10 rfl rfl ?_ ?_
    · skip
      refine vv_iconst 31 hk dX12_signOf_30 rfl ic_m1 ?_
      exact vv_le (ll_s rfl (ll_n ll_0)) (hk31 (-1 : Int32))
    · skip
      refine vv_aload_n (i := 0) 14 hk dX12_signOf_13 rfl rfl rfl ?_
      refine vv_getR 17 hk dX12_signOf_14 rfl la_86 rfl ci_12 rfl fl_12_98 ?_
      refine vv_bipush 19 hk dX12_signOf_17 rfl bp_40 ?_
      refine vv_iload_n (i := 1) 20 hk dX12_signOf_19 rfl rfl rfl ?_
      refine vv_imul 21 hk dX12_signOf_20 rfl ?_
      refine vv_aload_n (i := 0) 22 hk dX12_signOf_21 rfl rfl rfl ?_
      refine vv_getI 25 hk he dX12_signOf_22 rfl la_86 rfl ci_12 rfl fl_12_345 sd_86 ?_
      refine vv_iadd 26 hk dX12_signOf_25 rfl ?_
      refine vv_iald 27 hk he dX12_signOf_26 rfl la_116 sd_116 (fun v3 => ?_)
      refine vv_goto 31 hk dX12_signOf_27 rfl ?_
      exact vv_le (ll_s rfl (ll_n ll_0)) (hk31 v3)
theorem c_X12_compared (G : GT) (a1 : Int32) (σ : Hp) : CtI G false yX12_compared cX12_compared 7 (some .int) 3 [(rf G 86), (.int a1)] (f_X12_compared a1 σ) σ := by
  refine ctI (L0 := [some (rf G 86), some (.int a1), none, none, none, none, none]) (by decide +kernel) rfl rfl rfl (fun κ hk he hret => ?_)
  have hk : KO G κ cX12_compared RX12 3 := hk
  refine vv_aload_n (i := 0) 1 hk dX12_compared_0 rfl rfl rfl ?_
  refine vv_iload_n (i := 1) 2 hk dX12_compared_1 rfl rfl rfl ?_
  refine vv_invIr (st := []) 5 hk he dX12_compared_2 rfl ml_12_348 cf_X12_signOf la_86 ci_12 (c_X12_signOf G a1 σ) rfl rfl rfl rfl (fun v1 => ?_)
  refine vv_istore_n (i := 2) 6 [some (rf G 86), some (.int a1), some (.int v1), none, none, none, none] hk dX12_compared_5 rfl rfl rfl rfl ?_
  refine vv_aload_n (i := 0) 7 hk dX12_compared_6 rfl rfl rfl ?_
  refine vv_dup 8 hk dX12_compared_7 rfl rfl ?_
  refine vv_getI 11 hk he dX12_compared_8 rfl la_86 rfl ci_12 rfl fl_12_345 sd_86 ?_
  refine vv_iconst 12 hk dX12_compared_11 rfl ic_1 ?_
  refine vv_iadd 13 hk dX12_compared_12 rfl ?_
  refine vv_putI 16 hk he dX12_compared_13 rfl la_86 rfl ci_12 rfl fl_12_345 sd_86 rfl rfl (fun σ2 => ?_)
  refine vv_iconst 17 hk dX12_compared_16 rfl ic_0 ?_
  refine vv_istore_n (i := 3) 18 [some (rf G 86), some (.int a1), some (.int v1), some (.int (0 : Int32)), none, none, none] hk dX12_compared_17 rfl rfl rfl rfl ?_
  refine vv_iload_n (i := 2) 19 hk dX12_compared_18 rfl rfl rfl ?_
  refine vv_bipush 21 hk dX12_compared_19 rfl bp_116 ?_
  refine vv_jn (fun t3 => (t3.2, 43, [some (rf G 86), some (.int a1), some (.int v1), some (.int t3.1), none, none, none], [])) (fun t3 => ?_) (fun k43 hk43 => ?_)
  · skip
    refine vv_aload_n (i := 0) 44 hk dX12_compared_43 rfl rfl rfl ?_
    refine vv_iload_n (i := 1) 45 hk dX12_compared_44 rfl rfl rfl ?_
    refine vv_invIr (st := []) 48 hk he dX12_compared_45 rfl ml_12_348 cf_X12_signOf la_86 ci_12 (c_X12_signOf G a1 t3.2) rfl rfl rfl rfl (fun v4 => ?_)
    refine vv_istore 50 [some (rf G 86), some (.int a1), some (.int v1), some (.int t3.1), some (.int v4), none, none] hk dX12_compared_48 rfl rfl rfl ?_
    refine vv_aload_n (i := 0) 51 hk dX12_compared_50 rfl rfl rfl ?_
    refine vv_dup 52 hk dX12_compared_51 rfl rfl ?_
    refine vv_getI 55 hk he dX12_compared_52 rfl la_86 rfl ci_12 rfl fl_12_345 sd_86 ?_
    refine vv_iconst 56 hk dX12_compared_55 rfl ic_1 ?_
    refine vv_iadd 57 hk dX12_compared_56 rfl ?_
    refine vv_putI 60 hk he dX12_compared_57 rfl la_86 rfl ci_12 rfl fl_12_345 sd_86 rfl rfl (fun σ5 => ?_)
    refine vv_iconst 61 hk dX12_compared_60 rfl ic_0 ?_
    refine vv_istore 63 [some (rf G 86), some (.int a1), some (.int v1), some (.int t3.1), some (.int v4), some (.int (0 : Int32)), none] hk dX12_compared_61 rfl rfl rfl ?_
    refine vv_jn (fun t6 => (t6.2, 103, [some (rf G 86), none, some (.int v1), some (.int t3.1), some (.int v4), some (.int t6.1), none], [])) (fun t6 => ?_) (fun k103 hk103 => ?_)
    · skip
      refine vv_aload_n (i := 0) 104 hk dX12_compared_103 rfl rfl rfl ?_
      refine vv_iload_n (i := 2) 105 hk dX12_compared_104 rfl rfl rfl ?_
      refine vv_iload_n (i := 3) 106 hk dX12_compared_105 rfl rfl rfl ?_
      refine vv_invIr (st := []) 109 hk he dX12_compared_106 rfl ml_12_351 cf_X12_fact la_86 ci_12 (c_X12_fact G v1 t3.1 t6.2) rfl rfl rfl rfl (fun v7 => ?_)
      refine vv_istore 111 [some (rf G 86), none, some (.int v1), some (.int t3.1), some (.int v4), some (.int t6.1), some (.int v7)] hk dX12_compared_109 rfl rfl rfl ?_
      refine vv_iload 113 hk dX12_compared_111 rfl rfl ?_
      refine vv_bipush 115 hk dX12_compared_113 rfl bp_60 ?_
      refine vv_jn (fun t8 => (t6.2, 157, [some (rf G 86), none, none, none, none, none, none], [(.int t8)])) (fun t8 => ?_) (fun k157 hk157 => ?_)
      · skip
        exact hret _ _ _ _ dX12_compared_157
      · skip
        refine vv_jn (fun t9 => (t6.2, 156, [some (rf G 86), none, none, none, none, none, none], [])) (fun t9 => ?_) (fun k156 hk156 => ?_)
        · skip
          refine vv_iconst 157 hk dX12_compared_156 rfl ic_0 ?_
          exact vv_le (ll_s rfl (ll_n (ll_n (ll_n (ll_n (ll_n (ll_n ll_0))))))) (hk157 (0 : Int32))
        · skip
          refine vv_jn (fun t10 => (t6.2, 152, [some (rf G 86), none, none, none, none, none, none], [])) (fun t10 => ?_) (fun k152 hk152 => ?_)
          · skip
            refine vv_iconst 153 hk dX12_compared_152 rfl ic_1 ?_
            refine vv_goto 157 hk dX12_compared_153 rfl ?_
            exact vv_le (ll_s rfl (ll_n (ll_n (ll_n (ll_n (ll_n (ll_n ll_0))))))) (hk157 (1 : Int32))
          · skip
            refine vv_icmp_ne 128 118 hk dX12_compared_115 rfl rfl ?_ ?_
            · skip
              refine vv_iload 120 hk dX12_compared_118 rfl rfl ?_
              refine vv_iload 122 hk dX12_compared_120 rfl rfl ?_
              refine vv_icmp_ge 156 125 hk dX12_compared_122 rfl rfl ?_ ?_
              · skip
                exact vv_le (ll_s rfl (ll_n (ll_n (ll_n (ll_n (ll_n (ll_n ll_0))))))) (hk156 ())
              · skip
                refine vv_goto 152 hk dX12_compared_125 rfl ?_
                exact vv_le (ll_s rfl (ll_n (ll_n (ll_n (ll_n (ll_n (ll_n ll_0))))))) (hk152 ())
            · skip
              refine vv_iload 130 hk dX12_compared_128 rfl rfl ?_
              refine vv_bipush 132 hk dX12_compared_130 rfl bp_62 ?_
              refine vv_icmp_ne 145 135 hk dX12_compared_132 rfl rfl ?_ ?_
              · skip
                refine vv_iload 137 hk dX12_compared_135 rfl rfl ?_
                refine vv_iload 139 hk dX12_compared_137 rfl rfl ?_
                refine vv_icmp_le 156 142 hk dX12_compared_139 rfl rfl ?_ ?_
                · skip
                  exact vv_le (ll_s rfl (ll_n (ll_n (ll_n (ll_n (ll_n (ll_n ll_0))))))) (hk156 ())
                · skip
                  refine vv_goto 152 hk dX12_compared_142 rfl ?_
                  exact vv_le (ll_s rfl (ll_n (ll_n (ll_n (ll_n (ll_n (ll_n ll_0))))))) (hk152 ())
              · skip
                refine vv_iload 147 hk dX12_compared_145 rfl rfl ?_
                refine vv_iload 149 hk dX12_compared_147 rfl rfl ?_
                refine vv_icmp_ne 156 152 hk dX12_compared_149 rfl rfl ?_ ?_
                · skip
                  exact vv_le (ll_s rfl (ll_n (ll_n (ll_n (ll_n (ll_n (ll_n ll_0))))))) (hk152 ())
                · skip
                  exact vv_le (ll_s rfl (ll_n (ll_n (ll_n (ll_n (ll_n (ll_n ll_0))))))) (hk156 ())
    · skip
      refine vv_lp (fun t11 => (t11.2, 63, [some (rf G 86), some (.int a1), some (.int v1), some (.int t3.1), some (.int v4), some (.int t11.1), none], [])) (fun kl63 hkl63 t11 => ?_) FU ((0 : Int32), σ5)
      refine vv_aload_n (i := 0) 64 hk dX12_compared_63 rfl rfl rfl ?_
      refine vv_iload_n (i := 1) 65 hk dX12_compared_64 rfl rfl rfl ?_
      refine vv_invIr (st := []) 68 hk he dX12_compared_65 rfl ml_12_348 cf_X12_signOf la_86 ci_12 (c_X12_signOf G a1 t11.2) rfl rfl rfl rfl (fun v12 => ?_)
      refine vv_staIr (st := []) 71 hk he dX12_compared_68 rfl ml_12_320 sf_X12_isDigit (c_X12_isDigit G v12 t11.2) rfl rfl rfl rfl (fun v13 => ?_)
      refine vv_if_eq 103 74 hk dX12_compared_71 rfl rfl ?_ ?_
      · skip
        exact vv_le (ll_s rfl (ll_n (ll_s rfl (ll_s rfl (ll_s rfl (ll_s rfl (ll_n ll_0))))))) (hk103 (t11.1, t11.2))
      · skip
        refine vv_bipush 76 hk dX12_compared_74 rfl bp_10 ?_
        refine vv_iload 78 hk dX12_compared_76 rfl rfl ?_
        refine vv_imul 79 hk dX12_compared_78 rfl ?_
        refine vv_aload_n (i := 0) 80 hk dX12_compared_79 rfl rfl rfl ?_
        refine vv_iload_n (i := 1) 81 hk dX12_compared_80 rfl rfl rfl ?_
        refine vv_invIr (st := [(.int ((10 : Int32) * t11.1))]) 84 hk he dX12_compared_81 rfl ml_12_348 cf_X12_signOf la_86 ci_12 (c_X12_signOf G a1 t11.2) rfl rfl rfl rfl (fun v14 => ?_)
        refine vv_iadd 85 hk dX12_compared_84 rfl ?_
        refine vv_bipush 87 hk dX12_compared_85 rfl bp_48 ?_
        refine vv_isub 88 hk dX12_compared_87 rfl ?_
        refine vv_istoreL 90 (fun x15 => [some (rf G 86), some (.int a1), some (.int v1), some (.int t3.1), some (.int v4), some (.int x15), none]) hk dX12_compared_88 rfl rfl (fun _ => rfl) (fun x15 => ?_)
        refine vv_aload_n (i := 0) 91 hk dX12_compared_90 rfl rfl rfl ?_
        refine vv_dup 92 hk dX12_compared_91 rfl rfl ?_
        refine vv_getI 95 hk he dX12_compared_92 rfl la_86 rfl ci_12 rfl fl_12_345 sd_86 ?_
        refine vv_iconst 96 hk dX12_compared_95 rfl ic_1 ?_
        refine vv_iadd 97 hk dX12_compared_96 rfl ?_
        refine vv_putI 100 hk he dX12_compared_97 rfl la_86 rfl ci_12 rfl fl_12_345 sd_86 rfl rfl (fun σ16 => ?_)
        refine vv_goto 63 hk dX12_compared_100 rfl ?_
        exact vv_le (ll_s rfl (ll_s rfl (ll_s rfl (ll_s rfl (ll_s rfl (ll_s rfl (ll_n ll_0))))))) (hkl63 (x15, σ16))
  · skip
    refine vv_icmp_eq 43 24 hk dX12_compared_21 rfl rfl ?_ ?_
    · skip
      exact vv_le (ll_s rfl (ll_s rfl (ll_s rfl (ll_s rfl (ll_n (ll_n (ll_n ll_0))))))) (hk43 ((0 : Int32), σ2))
    · skip
      refine vv_aload_n (i := 0) 25 hk dX12_compared_24 rfl rfl rfl ?_
      refine vv_iload_n (i := 1) 26 hk dX12_compared_25 rfl rfl rfl ?_
      refine vv_invIr (st := []) 29 hk he dX12_compared_26 rfl ml_12_348 cf_X12_signOf la_86 ci_12 (c_X12_signOf G a1 σ2) rfl rfl rfl rfl (fun v17 => ?_)
      refine vv_bipush 31 hk dX12_compared_29 rfl bp_48 ?_
      refine vv_isub 32 hk dX12_compared_31 rfl ?_
      refine vv_istore_nL (i := 3) 33 (fun x18 => [some (rf G 86), some (.int a1), some (.int v1), some (.int x18), none, none, none]) hk dX12_compared_32 rfl rfl rfl (fun _ => rfl) (fun x18 => ?_)
      refine vv_aload_n (i := 0) 34 hk dX12_compared_33 rfl rfl rfl ?_
      refine vv_dup 35 hk dX12_compared_34 rfl rfl ?_
      refine vv_getI 38 hk he dX12_compared_35 rfl la_86 rfl ci_12 rfl fl_12_345 sd_86 ?_
      refine vv_iconst 39 hk dX12_compared_38 rfl ic_1 ?_
      refine vv_iadd 40 hk dX12_compared_39 rfl ?_
      refine vv_putI 43 hk he dX12_compared_40 rfl la_86 rfl ci_12 rfl fl_12_345 sd_86 rfl rfl (fun σ19 => ?_)
      exact vv_le (ll_s rfl (ll_s rfl (ll_s rfl (ll_s rfl (ll_n (ll_n (ll_n ll_0))))))) (hk43 (x18, σ19))
theorem c_X12_sign (G : GT) (σ : Hp) : CtI G false yX12_sign cX12_sign 1 (some .int) 0 [(rf G 86)] (rdI (f_X12_sign σ) σ) σ := by
  refine ctIr (L0 := [some (rf G 86)]) (by decide +kernel) rfl rfl rfl (fun κ hk he hret => ?_)
  have hk : KO G κ cX12_sign RX12 0 := hk
  refine vv_aload_n (i := 0) 1 hk dX12_sign_0 rfl rfl rfl ?_
  refine vv_getI 4 hk he dX12_sign_1 rfl la_86 rfl ci_12 rfl fl_12_313 sd_86 ?_
  refine vv_aload_n (i := 0) 5 hk dX12_sign_4 rfl rfl rfl ?_
  refine vv_getI 8 hk he dX12_sign_5 rfl la_86 rfl ci_12 rfl fl_12_308 sd_86 ?_
  refine vv_jn (fun t1 => (σ, 24, [some (rf G 86)], [(.int t1)])) (fun t1 => ?_) (fun k24 hk24 => ?_)
  · skip
    exact hret _ _ _ dX12_sign_24
  · skip
    refine vv_icmp_ge 23 11 hk dX12_sign_8 rfl rfl ?_ ?_
    · skip
      refine vv_iconst 24 hk dX12_sign_23 rfl ic_m1 ?_
      exact vv_le (ll_s rfl ll_0) (hk24 (-1 : Int32))
    · skip
      refine vv_aload_n (i := 0) 12 hk dX12_sign_11 rfl rfl rfl ?_
      refine vv_getR 15 hk dX12_sign_12 rfl la_86 rfl ci_12 rfl fl_12_95 ?_
      refine vv_aload_n (i := 0) 16 hk dX12_sign_15 rfl rfl rfl ?_
      refine vv_getI 19 hk he dX12_sign_16 rfl la_86 rfl ci_12 rfl fl_12_313 sd_86 ?_
      refine vv_iald 20 hk he dX12_sign_19 rfl la_115 sd_115 (fun v2 => ?_)
      refine vv_goto 24 hk dX12_sign_20 rfl ?_
      exact vv_le (ll_s rfl ll_0) (hk24 v2)
theorem c_X12_digit (G : GT) (σ : Hp) : CtI G false yX12_digit cX12_digit 1 (some .boolean) 1 [(rf G 86)] (f_X12_digit σ) σ := by
  refine ctZ (L0 := [some (rf G 86)]) (by decide +kernel) rfl rfl rfl (fun κ hk he hret => ?_)
  have hk : KO G κ cX12_digit RX12 1 := hk
  refine vv_aload_n (i := 0) 1 hk dX12_digit_0 rfl rfl rfl ?_
  refine vv_invIr (st := []) 4 hk he dX12_digit_1 rfl ml_12_316 cf_X12_sign la_86 ci_12 (c_X12_sign G σ) rfl rfl rfl rfl (fun v1 => ?_)
  refine vv_staIr (st := []) 7 hk he dX12_digit_4 rfl ml_12_320 sf_X12_isDigit (c_X12_isDigit G v1 σ) rfl rfl rfl rfl (fun v2 => ?_)
  refine vv_if_ne 12 10 hk dX12_digit_7 rfl rfl ?_ ?_
  · skip
    refine vv_iconst 11 hk dX12_digit_10 rfl ic_0 ?_
    exact hret _ _ _ _ dX12_digit_11
  · skip
    refine vv_aload_n (i := 0) 13 hk dX12_digit_12 rfl rfl rfl ?_
    refine vv_dup 14 hk dX12_digit_13 rfl rfl ?_
    refine vv_getI 17 hk he dX12_digit_14 rfl la_86 rfl ci_12 rfl fl_12_313 sd_86 ?_
    refine vv_iconst 18 hk dX12_digit_17 rfl ic_1 ?_
    refine vv_iadd 19 hk dX12_digit_18 rfl ?_
    refine vv_putI 22 hk he dX12_digit_19 rfl la_86 rfl ci_12 rfl fl_12_313 sd_86 rfl rfl (fun σ3 => ?_)
    refine vv_iconst 23 hk dX12_digit_22 rfl ic_1 ?_
    exact hret _ _ _ _ dX12_digit_23
theorem c_X12_compares (G : GT) (σ : Hp) : CtI G false yX12_compares cX12_compares 3 (some .boolean) 2 [(rf G 86)] (f_X12_compares σ) σ := by
  refine ctZ (L0 := [some (rf G 86), none, none]) (by decide +kernel) rfl rfl rfl (fun κ hk he hret => ?_)
  have hk : KO G κ cX12_compares RX12 2 := hk
  refine vv_aload_n (i := 0) 1 hk dX12_compares_0 rfl rfl rfl ?_
  refine vv_invIr (st := []) 4 hk he dX12_compares_1 rfl ml_12_316 cf_X12_sign la_86 ci_12 (c_X12_sign G σ) rfl rfl rfl rfl (fun v1 => ?_)
  refine vv_istore_n (i := 1) 5 [some (rf G 86), some (.int v1), none] hk dX12_compares_4 rfl rfl rfl rfl ?_
  refine vv_iload_n (i := 1) 6 hk dX12_compares_5 rfl rfl rfl ?_
  refine vv_bipush 8 hk dX12_compares_6 rfl bp_116 ?_
  refine vv_jn (fun t2 => (σ, 37, [some (rf G 86), some (.int v1), none], [])) (fun t2 => ?_) (fun k37 hk37 => ?_)
  · skip
    refine vv_aload_n (i := 0) 38 hk dX12_compares_37 rfl rfl rfl ?_
    refine vv_dup 39 hk dX12_compares_38 rfl rfl ?_
    refine vv_getI 42 hk he dX12_compares_39 rfl la_86 rfl ci_12 rfl fl_12_313 sd_86 ?_
    refine vv_iconst 43 hk dX12_compares_42 rfl ic_1 ?_
    refine vv_iadd 44 hk dX12_compares_43 rfl ?_
    refine vv_putI 47 hk he dX12_compares_44 rfl la_86 rfl ci_12 rfl fl_12_313 sd_86 rfl rfl (fun σ3 => ?_)
    refine vv_iload_n (i := 1) 48 hk dX12_compares_47 rfl rfl rfl ?_
    refine vv_bipush 50 hk dX12_compares_48 rfl bp_116 ?_
    refine vv_jn (fun t4 => (t4, 62, [some (rf G 86), none, none], [])) (fun t4 => ?_) (fun k62 hk62 => ?_)
    · skip
      refine vv_aload_n (i := 0) 63 hk dX12_compares_62 rfl rfl rfl ?_
      refine vv_invIr (st := []) 66 hk he dX12_compares_63 rfl ml_12_316 cf_X12_sign la_86 ci_12 (c_X12_sign G t4) rfl rfl rfl rfl (fun v5 => ?_)
      refine vv_bipush 68 hk dX12_compares_66 rfl bp_60 ?_
      refine vv_jn (fun t6 => (t4, 91, [some (rf G 86), none, none], [])) (fun t6 => ?_) (fun k91 hk91 => ?_)
      · skip
        refine vv_aload_n (i := 0) 92 hk dX12_compares_91 rfl rfl rfl ?_
        refine vv_dup 93 hk dX12_compares_92 rfl rfl ?_
        refine vv_getI 96 hk he dX12_compares_93 rfl la_86 rfl ci_12 rfl fl_12_313 sd_86 ?_
        refine vv_iconst 97 hk dX12_compares_96 rfl ic_1 ?_
        refine vv_iadd 98 hk dX12_compares_97 rfl ?_
        refine vv_putI 101 hk he dX12_compares_98 rfl la_86 rfl ci_12 rfl fl_12_313 sd_86 rfl rfl (fun σ7 => ?_)
        refine vv_aload_n (i := 0) 102 hk dX12_compares_101 rfl rfl rfl ?_
        refine vv_invI (st := []) 105 hk he dX12_compares_102 rfl ml_12_323 cf_X12_digit la_86 ci_12 (c_X12_digit G σ7) rfl rfl rfl rfl (fun v8 σ9 => ?_)
        refine vv_if_ne 110 108 hk dX12_compares_105 rfl rfl ?_ ?_
        · skip
          refine vv_iconst 109 hk dX12_compares_108 rfl ic_0 ?_
          exact hret _ _ _ _ dX12_compares_109
        · skip
          refine vv_iconst 111 hk dX12_compares_110 rfl ic_1 ?_
          refine vv_istore_n (i := 2) 112 [some (rf G 86), none, some (.int (1 : Int32))] hk dX12_compares_111 rfl rfl rfl rfl ?_
          refine vv_lp (fun t10 => (t10.2, 112, [some (rf G 86), none, some (.int t10.1)], [])) (fun kl112 hkl112 t10 => ?_) FU ((1 : Int32), σ9)
          refine vv_iload_n (i := 2) 113 hk dX12_compares_112 rfl rfl rfl ?_
          refine vv_iconst 114 hk dX12_compares_113 rfl ic_5 ?_
          refine vv_icmp_ge 143 117 hk dX12_compares_114 rfl rfl ?_ ?_
          · skip
            refine vv_iconst 144 hk dX12_compares_143 rfl ic_1 ?_
            exact hret _ _ _ _ dX12_compares_144
          · skip
            refine vv_aload_n (i := 0) 118 hk dX12_compares_117 rfl rfl rfl ?_
            refine vv_invIr (st := []) 121 hk he dX12_compares_118 rfl ml_12_316 cf_X12_sign la_86 ci_12 (c_X12_sign G t10.2) rfl rfl rfl rfl (fun v11 => ?_)
            refine vv_staIr (st := []) 124 hk he dX12_compares_121 rfl ml_12_320 sf_X12_isDigit (c_X12_isDigit G v11 t10.2) rfl rfl rfl rfl (fun v12 => ?_)
            refine vv_if_eq 143 127 hk dX12_compares_124 rfl rfl ?_ ?_
            · skip
              refine vv_iconst 144 hk dX12_compares_143 rfl ic_1 ?_
              exact hret _ _ _ _ dX12_compares_144
            · skip
              refine vv_aload_n (i := 0) 128 hk dX12_compares_127 rfl rfl rfl ?_
              refine vv_dup 129 hk dX12_compares_128 rfl rfl ?_
              refine vv_getI 132 hk he dX12_compares_129 rfl la_86 rfl ci_12 rfl fl_12_313 sd_86 ?_
              refine vv_iconst 133 hk dX12_compares_132 rfl ic_1 ?_
              refine vv_iadd 134 hk dX12_compares_133 rfl ?_
              refine vv_putI 137 hk he dX12_compares_134 rfl la_86 rfl ci_12 rfl fl_12_313 sd_86 rfl rfl (fun σ13 => ?_)
              refine vv_iinc 140 (fun x14 => [some (rf G 86), none, some (.int x14)]) hk dX12_compares_137 rfl rfl ic_1 (fun _ => rfl) (fun x14 => ?_)
              refine vv_goto 112 hk dX12_compares_140 rfl ?_
              exact vv_le (ll_s rfl (ll_n (ll_s rfl ll_0))) (hkl112 (x14, σ13))
      · skip
        refine vv_icmp_eq 91 71 hk dX12_compares_68 rfl rfl ?_ ?_
        · skip
          exact vv_le (ll_s rfl (ll_n (ll_n ll_0))) (hk91 ())
        · skip
          refine vv_aload_n (i := 0) 72 hk dX12_compares_71 rfl rfl rfl ?_
          refine vv_invIr (st := []) 75 hk he dX12_compares_72 rfl ml_12_316 cf_X12_sign la_86 ci_12 (c_X12_sign G t4) rfl rfl rfl rfl (fun v15 => ?_)
          refine vv_bipush 77 hk dX12_compares_75 rfl bp_61 ?_
          refine vv_icmp_eq 91 80 hk dX12_compares_77 rfl rfl ?_ ?_
          · skip
            exact vv_le (ll_s rfl (ll_n (ll_n ll_0))) (hk91 ())
          · skip
            refine vv_aload_n (i := 0) 81 hk dX12_compares_80 rfl rfl rfl ?_
            refine vv_invIr (st := []) 84 hk he dX12_compares_81 rfl ml_12_316 cf_X12_sign la_86 ci_12 (c_X12_sign G t4) rfl rfl rfl rfl (fun v16 => ?_)
            refine vv_bipush 86 hk dX12_compares_84 rfl bp_62 ?_
            refine vv_icmp_eq 91 89 hk dX12_compares_86 rfl rfl ?_ ?_
            · skip
              exact vv_le (ll_s rfl (ll_n (ll_n ll_0))) (hk91 ())
            · skip
              refine vv_iconst 90 hk dX12_compares_89 rfl ic_0 ?_
              exact hret _ _ _ _ dX12_compares_90
    · skip
      refine vv_icmp_eq 62 53 hk dX12_compares_50 rfl rfl ?_ ?_
      · skip
        exact vv_le (ll_s rfl (ll_n (ll_n ll_0))) (hk62 σ3)
      · skip
        refine vv_aload_n (i := 0) 54 hk dX12_compares_53 rfl rfl rfl ?_
        refine vv_invI (st := []) 57 hk he dX12_compares_54 rfl ml_12_323 cf_X12_digit la_86 ci_12 (c_X12_digit G σ3) rfl rfl rfl rfl (fun v17 σ18 => ?_)
        refine vv_if_ne 62 60 hk dX12_compares_57 rfl rfl ?_ ?_
        · skip
          refine vv_iconst 61 hk dX12_compares_60 rfl ic_0 ?_
          exact hret _ _ _ _ dX12_compares_61
        · skip
          exact vv_le (ll_s rfl (ll_n (ll_n ll_0))) (hk62 σ18)
  · skip
    refine vv_icmp_eq 37 11 hk dX12_compares_8 rfl rfl ?_ ?_
    · skip
      exact vv_le (ll_s rfl (ll_s rfl (ll_n ll_0))) (hk37 ())
    · skip
      refine vv_iload_n (i := 1) 12 hk dX12_compares_11 rfl rfl rfl ?_
      refine vv_bipush 14 hk dX12_compares_12 rfl bp_114 ?_
      refine vv_icmp_eq 37 17 hk dX12_compares_14 rfl rfl ?_ ?_
      · skip
        exact vv_le (ll_s rfl (ll_s rfl (ll_n ll_0))) (hk37 ())
      · skip
        refine vv_iload_n (i := 1) 18 hk dX12_compares_17 rfl rfl rfl ?_
        refine vv_bipush 20 hk dX12_compares_18 rfl bp_119 ?_
        refine vv_icmp_eq 37 23 hk dX12_compares_20 rfl rfl ?_ ?_
        · skip
          exact vv_le (ll_s rfl (ll_s rfl (ll_n ll_0))) (hk37 ())
        · skip
          refine vv_iload_n (i := 1) 24 hk dX12_compares_23 rfl rfl rfl ?_
          refine vv_bipush 26 hk dX12_compares_24 rfl bp_118 ?_
          refine vv_icmp_eq 37 29 hk dX12_compares_26 rfl rfl ?_ ?_
          · skip
            exact vv_le (ll_s rfl (ll_s rfl (ll_n ll_0))) (hk37 ())
          · skip
            refine vv_iload_n (i := 1) 30 hk dX12_compares_29 rfl rfl rfl ?_
            refine vv_bipush 32 hk dX12_compares_30 rfl bp_112 ?_
            refine vv_icmp_eq 37 35 hk dX12_compares_32 rfl rfl ?_ ?_
            · skip
              exact vv_le (ll_s rfl (ll_s rfl (ll_n ll_0))) (hk37 ())
            · skip
              refine vv_iconst 36 hk dX12_compares_35 rfl ic_0 ?_
              exact hret _ _ _ _ dX12_compares_36
theorem c_X12_copies (G : GT) (a1 : Int32) (σ : Hp) : CtV G false yX12_copies cX12_copies 3 none 0 [(rf G 86), (.int a1)] (f_X12_copies a1 σ) σ := by
  refine ctV (L0 := [some (rf G 86), some (.int a1), none]) (by decide +kernel) rfl rfl rfl (fun κ hk he hret => ?_)
  have hk : KO G κ cX12_copies RX12 0 := hk
  refine vv_iconst 1 hk dX12_copies_0 rfl ic_0 ?_
  refine vv_istore_n (i := 2) 2 [some (rf G 86), some (.int a1), some (.int (0 : Int32))] hk dX12_copies_1 rfl rfl rfl rfl ?_
  refine vv_jn (fun t1 => (t1, 76, [some (rf G 86), some (.int a1), none], [])) (fun t1 => ?_) (fun k76 hk76 => ?_)
  · skip
    refine vv_iconst 77 hk dX12_copies_76 rfl ic_0 ?_
    refine vv_istore_n (i := 2) 78 [some (rf G 86), some (.int a1), some (.int (0 : Int32))] hk dX12_copies_77 rfl rfl rfl rfl ?_
    refine vv_jn (fun t2 => (t2, 121, [some (rf G 86), some (.int a1), none], [])) (fun t2 => ?_) (fun k121 hk121 => ?_)
    · skip
      refine vv_iconst 122 hk dX12_copies_121 rfl ic_0 ?_
      refine vv_istore_n (i := 2) 123 [some (rf G 86), some (.int a1), some (.int (0 : Int32))] hk dX12_copies_122 rfl rfl rfl rfl ?_
      refine vv_jn (fun t3 => (t3, 196, [some (rf G 86), some (.int a1), none], [])) (fun t3 => ?_) (fun k196 hk196 => ?_)
      · skip
        refine vv_iconst 197 hk dX12_copies_196 rfl ic_0 ?_
        refine vv_istore_n (i := 2) 198 [some (rf G 86), some (.int a1), some (.int (0 : Int32))] hk dX12_copies_197 rfl rfl rfl rfl ?_
        refine vv_lp (fun t4 => (t4.2, 198, [some (rf G 86), some (.int a1), some (.int t4.1)], [])) (fun kl198 hkl198 t4 => ?_) FU ((0 : Int32), t3)
        refine vv_iload_n (i := 2) 199 hk dX12_copies_198 rfl rfl rfl ?_
        refine vv_bipush 201 hk dX12_copies_199 rfl bp_8 ?_
        refine vv_icmp_ge 241 204 hk dX12_copies_201 rfl rfl ?_ ?_
        · skip
          exact hret _ _ _ dX12_copies_241
        · skip
          refine vv_iload_n (i := 1) 205 hk dX12_copies_204 rfl rfl rfl ?_
          refine vv_jn (fun t5 => (t5, 235, [some (rf G 86), some (.int a1), some (.int t4.1)], [])) (fun t5 => ?_) (fun k235 hk235 => ?_)
          · skip
            refine vv_iinc 238 (fun x6 => [some (rf G 86), some (.int a1), some (.int x6)]) hk dX12_copies_235 rfl rfl ic_1 (fun _ => rfl) (fun x6 => ?_)
            refine vv_goto 198 hk dX12_copies_238 rfl ?_
            exact vv_le (ll_s rfl (ll_s rfl (ll_s rfl ll_0))) (hkl198 (x6, t5))
          · skip
            refine vv_if_eq 223 208 hk dX12_copies_205 rfl rfl ?_ ?_
            · skip
              refine vv_aload_n (i := 0) 224 hk dX12_copies_223 rfl rfl rfl ?_
              refine vv_getR 227 hk dX12_copies_224 rfl la_86 rfl ci_12 rfl fl_12_68 ?_
              refine vv_iload_n (i := 2) 228 hk dX12_copies_227 rfl rfl rfl ?_
              refine vv_aload_n (i := 0) 229 hk dX12_copies_228 rfl rfl rfl ?_
              refine vv_getR 232 hk dX12_copies_229 rfl la_86 rfl ci_12 rfl fl_12_92 ?_
              refine vv_iload_n (i := 2) 233 hk dX12_copies_232 rfl rfl rfl ?_
              refine vv_zald 234 hk he dX12_copies_233 rfl la_114 sd_114 (fun v7 => ?_)
              refine vv_zast 235 hk he dX12_copies_234 rfl la_106 sd_106 (fun σ8 => ?_)
              exact vv_le (ll_s rfl (ll_s rfl (ll_s rfl ll_0))) (hk235 σ8)
            · skip
              refine vv_aload_n (i := 0) 209 hk dX12_copies_208 rfl rfl rfl ?_
              refine vv_getR 212 hk dX12_copies_209 rfl la_86 rfl ci_12 rfl fl_12_92 ?_
              refine vv_iload_n (i := 2) 213 hk dX12_copies_212 rfl rfl rfl ?_
              refine vv_aload_n (i := 0) 214 hk dX12_copies_213 rfl rfl rfl ?_
              refine vv_getR 217 hk dX12_copies_214 rfl la_86 rfl ci_12 rfl fl_12_68 ?_
              refine vv_iload_n (i := 2) 218 hk dX12_copies_217 rfl rfl rfl ?_
              refine vv_zald 219 hk he dX12_copies_218 rfl la_106 sd_106 (fun v9 => ?_)
              refine vv_zast 220 hk he dX12_copies_219 rfl la_114 sd_114 (fun σ10 => ?_)
              refine vv_goto 235 hk dX12_copies_220 rfl ?_
              exact vv_le (ll_s rfl (ll_s rfl (ll_s rfl ll_0))) (hk235 σ10)
      · skip
        refine vv_lp (fun t11 => (t11.2, 123, [some (rf G 86), some (.int a1), some (.int t11.1)], [])) (fun kl123 hkl123 t11 => ?_) FU ((0 : Int32), t2)
        refine vv_iload_n (i := 2) 124 hk dX12_copies_123 rfl rfl rfl ?_
        refine vv_iconst 125 hk dX12_copies_124 rfl ic_3 ?_
        refine vv_icmp_ge 196 128 hk dX12_copies_125 rfl rfl ?_ ?_
        · skip
          exact vv_le (ll_s rfl (ll_s rfl (ll_n ll_0))) (hk196 t11.2)
        · skip
          refine vv_iload_n (i := 1) 129 hk dX12_copies_128 rfl rfl rfl ?_
          refine vv_jn (fun t12 => (t12, 159, [some (rf G 86), some (.int a1), some (.int t11.1)], [])) (fun t12 => ?_) (fun k159 hk159 => ?_)
          · skip
            refine vv_iload_n (i := 1) 160 hk dX12_copies_159 rfl rfl rfl ?_
            refine vv_jn (fun t13 => (t13, 190, [some (rf G 86), some (.int a1), some (.int t11.1)], [])) (fun t13 => ?_) (fun k190 hk190 => ?_)
            · skip
              refine vv_iinc 193 (fun x14 => [some (rf G 86), some (.int a1), some (.int x14)]) hk dX12_copies_190 rfl rfl ic_1 (fun _ => rfl) (fun x14 => ?_)
              refine vv_goto 123 hk dX12_copies_193 rfl ?_
              exact vv_le (ll_s rfl (ll_s rfl (ll_s rfl ll_0))) (hkl123 (x14, t13))
            · skip
              refine vv_if_eq 178 163 hk dX12_copies_160 rfl rfl ?_ ?_
              · skip
                refine vv_aload_n (i := 0) 179 hk dX12_copies_178 rfl rfl rfl ?_
                refine vv_getR 182 hk dX12_copies_179 rfl la_86 rfl ci_12 rfl fl_12_58 ?_
                refine vv_iload_n (i := 2) 183 hk dX12_copies_182 rfl rfl rfl ?_
                refine vv_aload_n (i := 0) 184 hk dX12_copies_183 rfl rfl rfl ?_
                refine vv_getR 187 hk dX12_copies_184 rfl la_86 rfl ci_12 rfl fl_12_89 ?_
                refine vv_iload_n (i := 2) 188 hk dX12_copies_187 rfl rfl rfl ?_
                refine vv_iald 189 hk he dX12_copies_188 rfl la_113 sd_113 (fun v15 => ?_)
                refine vv_iast 190 hk he dX12_copies_189 rfl la_103 sd_103 (fun σ16 => ?_)
                exact vv_le (ll_s rfl (ll_s rfl (ll_s rfl ll_0))) (hk190 σ16)
              · skip
                refine vv_aload_n (i := 0) 164 hk dX12_copies_163 rfl rfl rfl ?_
                refine vv_getR 167 hk dX12_copies_164 rfl la_86 rfl ci_12 rfl fl_12_89 ?_
                refine vv_iload_n (i := 2) 168 hk dX12_copies_167 rfl rfl rfl ?_
                refine vv_aload_n (i := 0) 169 hk dX12_copies_168 rfl rfl rfl ?_
                refine vv_getR 172 hk dX12_copies_169 rfl la_86 rfl ci_12 rfl fl_12_58 ?_
                refine vv_iload_n (i := 2) 173 hk dX12_copies_172 rfl rfl rfl ?_
                refine vv_iald 174 hk he dX12_copies_173 rfl la_103 sd_103 (fun v17 => ?_)
                refine vv_iast 175 hk he dX12_copies_174 rfl la_113 sd_113 (fun σ18 => ?_)
                refine vv_goto 190 hk dX12_copies_175 rfl ?_
                exact vv_le (ll_s rfl (ll_s rfl (ll_s rfl ll_0))) (hk190 σ18)
          · skip
            refine vv_if_eq 147 132 hk dX12_copies_129 rfl rfl ?_ ?_
            · skip
              refine vv_aload_n (i := 0) 148 hk dX12_copies_147 rfl rfl rfl ?_
              refine vv_getR 151 hk dX12_copies_148 rfl la_86 rfl ci_12 rfl fl_12_55 ?_
              refine vv_iload_n (i := 2) 152 hk dX12_copies_151 rfl rfl rfl ?_
              refine vv_aload_n (i := 0) 153 hk dX12_copies_152 rfl rfl rfl ?_
              refine vv_getR 156 hk dX12_copies_153 rfl la_86 rfl ci_12 rfl fl_12_86 ?_
              refine vv_iload_n (i := 2) 157 hk dX12_copies_156 rfl rfl rfl ?_
              refine vv_iald 158 hk he dX12_copies_157 rfl la_112 sd_112 (fun v19 => ?_)
              refine vv_iast 159 hk he dX12_copies_158 rfl la_102 sd_102 (fun σ20 => ?_)
              exact vv_le (ll_s rfl (ll_s rfl (ll_s rfl ll_0))) (hk159 σ20)
            · skip
              refine vv_aload_n (i := 0) 133 hk dX12_copies_132 rfl rfl rfl ?_
              refine vv_getR 136 hk dX12_copies_133 rfl la_86 rfl ci_12 rfl fl_12_86 ?_
              refine vv_iload_n (i := 2) 137 hk dX12_copies_136 rfl rfl rfl ?_
              refine vv_aload_n (i := 0) 138 hk dX12_copies_137 rfl rfl rfl ?_
              refine vv_getR 141 hk dX12_copies_138 rfl la_86 rfl ci_12 rfl fl_12_55 ?_
              refine vv_iload_n (i := 2) 142 hk dX12_copies_141 rfl rfl rfl ?_
              refine vv_iald 143 hk he dX12_copies_142 rfl la_102 sd_102 (fun v21 => ?_)
              refine vv_iast 144 hk he dX12_copies_143 rfl la_112 sd_112 (fun σ22 => ?_)
              refine vv_goto 159 hk dX12_copies_144 rfl ?_
              exact vv_le (ll_s rfl (ll_s rfl (ll_s rfl ll_0))) (hk159 σ22)
    · skip
      refine vv_lp (fun t23 => (t23.2, 78, [some (rf G 86), some (.int a1), some (.int t23.1)], [])) (fun kl78 hkl78 t23 => ?_) FU ((0 : Int32), t1)
      refine vv_iload_n (i := 2) 79 hk dX12_copies_78 rfl rfl rfl ?_
      refine vv_bipush 81 hk dX12_copies_79 rfl bp_24 ?_
      refine vv_icmp_ge 121 84 hk dX12_copies_81 rfl rfl ?_ ?_
      · skip
        exact vv_le (ll_s rfl (ll_s rfl (ll_n ll_0))) (hk121 t23.2)
      · skip
        refine vv_iload_n (i := 1) 85 hk dX12_copies_84 rfl rfl rfl ?_
        refine vv_jn (fun t24 => (t24, 115, [some (rf G 86), some (.int a1), some (.int t23.1)], [])) (fun t24 => ?_) (fun k115 hk115 => ?_)
        · skip
          refine vv_iinc 118 (fun x25 => [some (rf G 86), some (.int a1), some (.int x25)]) hk dX12_copies_115 rfl rfl ic_1 (fun _ => rfl) (fun x25 => ?_)
          refine vv_goto 78 hk dX12_copies_118 rfl ?_
          exact vv_le (ll_s rfl (ll_s rfl (ll_s rfl ll_0))) (hkl78 (x25, t24))
        · skip
          refine vv_if_eq 103 88 hk dX12_copies_85 rfl rfl ?_ ?_
          · skip
            refine vv_aload_n (i := 0) 104 hk dX12_copies_103 rfl rfl rfl ?_
            refine vv_getR 107 hk dX12_copies_104 rfl la_86 rfl ci_12 rfl fl_12_52 ?_
            refine vv_iload_n (i := 2) 108 hk dX12_copies_107 rfl rfl rfl ?_
            refine vv_aload_n (i := 0) 109 hk dX12_copies_108 rfl rfl rfl ?_
            refine vv_getR 112 hk dX12_copies_109 rfl la_86 rfl ci_12 rfl fl_12_83 ?_
            refine vv_iload_n (i := 2) 113 hk dX12_copies_112 rfl rfl rfl ?_
            refine vv_iald 114 hk he dX12_copies_113 rfl la_111 sd_111 (fun v26 => ?_)
            refine vv_iast 115 hk he dX12_copies_114 rfl la_101 sd_101 (fun σ27 => ?_)
            exact vv_le (ll_s rfl (ll_s rfl (ll_s rfl ll_0))) (hk115 σ27)
          · skip
            refine vv_aload_n (i := 0) 89 hk dX12_copies_88 rfl rfl rfl ?_
            refine vv_getR 92 hk dX12_copies_89 rfl la_86 rfl ci_12 rfl fl_12_83 ?_
            refine vv_iload_n (i := 2) 93 hk dX12_copies_92 rfl rfl rfl ?_
            refine vv_aload_n (i := 0) 94 hk dX12_copies_93 rfl rfl rfl ?_
            refine vv_getR 97 hk dX12_copies_94 rfl la_86 rfl ci_12 rfl fl_12_52 ?_
            refine vv_iload_n (i := 2) 98 hk dX12_copies_97 rfl rfl rfl ?_
            refine vv_iald 99 hk he dX12_copies_98 rfl la_101 sd_101 (fun v28 => ?_)
            refine vv_iast 100 hk he dX12_copies_99 rfl la_111 sd_111 (fun σ29 => ?_)
            refine vv_goto 115 hk dX12_copies_100 rfl ?_
            exact vv_le (ll_s rfl (ll_s rfl (ll_s rfl ll_0))) (hk115 σ29)
  · skip
    refine vv_lp (fun t30 => (t30.2, 2, [some (rf G 86), some (.int a1), some (.int t30.1)], [])) (fun kl2 hkl2 t30 => ?_) FU ((0 : Int32), σ)
    refine vv_iload_n (i := 2) 3 hk dX12_copies_2 rfl rfl rfl ?_
    refine vv_bipush 5 hk dX12_copies_3 rfl bp_15 ?_
    refine vv_icmp_ge 76 8 hk dX12_copies_5 rfl rfl ?_ ?_
    · skip
      exact vv_le (ll_s rfl (ll_s rfl (ll_n ll_0))) (hk76 t30.2)
    · skip
      refine vv_iload_n (i := 1) 9 hk dX12_copies_8 rfl rfl rfl ?_
      refine vv_jn (fun t31 => (t31, 39, [some (rf G 86), some (.int a1), some (.int t30.1)], [])) (fun t31 => ?_) (fun k39 hk39 => ?_)
      · skip
        refine vv_iload_n (i := 1) 40 hk dX12_copies_39 rfl rfl rfl ?_
        refine vv_jn (fun t32 => (t32, 70, [some (rf G 86), some (.int a1), some (.int t30.1)], [])) (fun t32 => ?_) (fun k70 hk70 => ?_)
        · skip
          refine vv_iinc 73 (fun x33 => [some (rf G 86), some (.int a1), some (.int x33)]) hk dX12_copies_70 rfl rfl ic_1 (fun _ => rfl) (fun x33 => ?_)
          refine vv_goto 2 hk dX12_copies_73 rfl ?_
          exact vv_le (ll_s rfl (ll_s rfl (ll_s rfl ll_0))) (hkl2 (x33, t32))
        · skip
          refine vv_if_eq 58 43 hk dX12_copies_40 rfl rfl ?_ ?_
          · skip
            refine vv_aload_n (i := 0) 59 hk dX12_copies_58 rfl rfl rfl ?_
            refine vv_getR 62 hk dX12_copies_59 rfl la_86 rfl ci_12 rfl fl_12_49 ?_
            refine vv_iload_n (i := 2) 63 hk dX12_copies_62 rfl rfl rfl ?_
            refine vv_aload_n (i := 0) 64 hk dX12_copies_63 rfl rfl rfl ?_
            refine vv_getR 67 hk dX12_copies_64 rfl la_86 rfl ci_12 rfl fl_12_80 ?_
            refine vv_iload_n (i := 2) 68 hk dX12_copies_67 rfl rfl rfl ?_
            refine vv_iald 69 hk he dX12_copies_68 rfl la_110 sd_110 (fun v34 => ?_)
            refine vv_iast 70 hk he dX12_copies_69 rfl la_100 sd_100 (fun σ35 => ?_)
            exact vv_le (ll_s rfl (ll_s rfl (ll_s rfl ll_0))) (hk70 σ35)
          · skip
            refine vv_aload_n (i := 0) 44 hk dX12_copies_43 rfl rfl rfl ?_
            refine vv_getR 47 hk dX12_copies_44 rfl la_86 rfl ci_12 rfl fl_12_80 ?_
            refine vv_iload_n (i := 2) 48 hk dX12_copies_47 rfl rfl rfl ?_
            refine vv_aload_n (i := 0) 49 hk dX12_copies_48 rfl rfl rfl ?_
            refine vv_getR 52 hk dX12_copies_49 rfl la_86 rfl ci_12 rfl fl_12_49 ?_
            refine vv_iload_n (i := 2) 53 hk dX12_copies_52 rfl rfl rfl ?_
            refine vv_iald 54 hk he dX12_copies_53 rfl la_100 sd_100 (fun v36 => ?_)
            refine vv_iast 55 hk he dX12_copies_54 rfl la_110 sd_110 (fun σ37 => ?_)
            refine vv_goto 70 hk dX12_copies_55 rfl ?_
            exact vv_le (ll_s rfl (ll_s rfl (ll_s rfl ll_0))) (hk70 σ37)
      · skip
        refine vv_if_eq 27 12 hk dX12_copies_9 rfl rfl ?_ ?_
        · skip
          refine vv_aload_n (i := 0) 28 hk dX12_copies_27 rfl rfl rfl ?_
          refine vv_getR 31 hk dX12_copies_28 rfl la_86 rfl ci_12 rfl fl_12_46 ?_
          refine vv_iload_n (i := 2) 32 hk dX12_copies_31 rfl rfl rfl ?_
          refine vv_aload_n (i := 0) 33 hk dX12_copies_32 rfl rfl rfl ?_
          refine vv_getR 36 hk dX12_copies_33 rfl la_86 rfl ci_12 rfl fl_12_77 ?_
          refine vv_iload_n (i := 2) 37 hk dX12_copies_36 rfl rfl rfl ?_
          refine vv_iald 38 hk he dX12_copies_37 rfl la_109 sd_109 (fun v38 => ?_)
          refine vv_iast 39 hk he dX12_copies_38 rfl la_99 sd_99 (fun σ39 => ?_)
          exact vv_le (ll_s rfl (ll_s rfl (ll_s rfl ll_0))) (hk39 σ39)
        · skip
          refine vv_aload_n (i := 0) 13 hk dX12_copies_12 rfl rfl rfl ?_
          refine vv_getR 16 hk dX12_copies_13 rfl la_86 rfl ci_12 rfl fl_12_77 ?_
          refine vv_iload_n (i := 2) 17 hk dX12_copies_16 rfl rfl rfl ?_
          refine vv_aload_n (i := 0) 18 hk dX12_copies_17 rfl rfl rfl ?_
          refine vv_getR 21 hk dX12_copies_18 rfl la_86 rfl ci_12 rfl fl_12_46 ?_
          refine vv_iload_n (i := 2) 22 hk dX12_copies_21 rfl rfl rfl ?_
          refine vv_iald 23 hk he dX12_copies_22 rfl la_99 sd_99 (fun v40 => ?_)
          refine vv_iast 24 hk he dX12_copies_23 rfl la_109 sd_109 (fun σ41 => ?_)
          refine vv_goto 39 hk dX12_copies_24 rfl ?_
          exact vv_le (ll_s rfl (ll_s rfl (ll_s rfl ll_0))) (hk39 σ41)
theorem c_X12_count (G : GT) (a1 : Int32) (σ : Hp) : CtI G false yX12_count cX12_count 4 (some .int) 1 [(rf G 86), (.int a1)] (rdI (f_X12_count a1 σ) σ) σ := by
  refine ctIr (L0 := [some (rf G 86), some (.int a1), none, none]) (by decide +kernel) rfl rfl rfl (fun κ hk he hret => ?_)
  have hk : KO G κ cX12_count RX12 1 := hk
  refine vv_iload_n (i := 1) 1 hk dX12_count_0 rfl rfl rfl ?_
  refine vv_i2l 2 hk dX12_count_1 rfl ?_
  refine vv_ldc2 5 hk dX12_count_2 rfl cw_12_469 ?_
  refine vv_ldc2 8 hk dX12_count_5 rfl cw_12_471 ?_
  refine vv_staIr (st := []) 11 hk he dX12_count_8 rfl ml_12_222 sf_X12_isIn (c_X12_isIn G a1.toInt64 (11 : Int64) (17 : Int64) σ) rfl rfl rfl rfl (fun v1 => ?_)
  refine vv_if_eq 24 14 hk dX12_count_11 rfl rfl ?_ ?_
  · skip
    refine vv_iconst 25 hk dX12_count_24 rfl ic_0 ?_
    refine vv_istore_n (i := 2) 26 [some (rf G 86), some (.int a1), some (.int (0 : Int32)), none] hk dX12_count_25 rfl rfl rfl rfl ?_
    refine vv_iload_n (i := 1) 27 hk dX12_count_26 rfl rfl rfl ?_
    refine vv_case (fun h0 => ?_) (fun h0 => ?_)
    · skip
      refine vv_tabIn 76 hk dX12_count_27 (by rw [h0]; decide +kernel) (by rw [h0]; decide +kernel) (off := 49) (by rw [h0]; decide +kernel) rfl ?_
      refine vv_aload_n (i := 0) 77 hk dX12_count_76 rfl rfl rfl ?_
      refine vv_getI 80 hk he dX12_count_77 rfl la_86 rfl ci_12 rfl fl_12_280 sd_86 ?_
      exact hret _ _ _ dX12_count_80
    · skip
      refine vv_case (fun h1 => ?_) (fun h1 => ?_)
      · skip
        refine vv_tabIn 81 hk dX12_count_27 (by rw [h1]; decide +kernel) (by rw [h1]; decide +kernel) (off := 54) (by rw [h1]; decide +kernel) rfl ?_
        refine vv_aload_n (i := 0) 82 hk dX12_count_81 rfl rfl rfl ?_
        refine vv_getI 85 hk he dX12_count_82 rfl la_86 rfl ci_12 rfl fl_12_210 sd_86 ?_
        exact hret _ _ _ dX12_count_85
      · skip
        refine vv_case (fun h2 => ?_) (fun h2 => ?_)
        · skip
          refine vv_tabIn 86 hk dX12_count_27 (by rw [h2]; decide +kernel) (by rw [h2]; decide +kernel) (off := 59) (by rw [h2]; decide +kernel) rfl ?_
          refine vv_aload_n (i := 0) 87 hk dX12_count_86 rfl rfl rfl ?_
          refine vv_getI 90 hk he dX12_count_87 rfl la_86 rfl ci_12 rfl fl_12_214 sd_86 ?_
          exact hret _ _ _ dX12_count_90
        · skip
          refine vv_case (fun h3 => ?_) (fun h3 => ?_)
          · skip
            refine vv_tabIn 91 hk dX12_count_27 (by rw [h3]; decide +kernel) (by rw [h3]; decide +kernel) (off := 64) (by rw [h3]; decide +kernel) rfl ?_
            refine vv_iconst 92 hk dX12_count_91 rfl ic_0 ?_
            refine vv_istore_n (i := 3) 93 [some (rf G 86), some (.int a1), some (.int (0 : Int32)), some (.int (0 : Int32))] hk dX12_count_92 rfl rfl rfl rfl ?_
            refine vv_le (L' := [some (rf G 86), none, some (.int (0 : Int32)), some (.int (0 : Int32))]) (ll_s rfl (ll_n (ll_s rfl (ll_s rfl ll_0)))) ?_
            refine vv_lp (fun t2 => (σ, 93, [some (rf G 86), none, some (.int t2.1), some (.int t2.2)], [])) (fun kl93 hkl93 t2 => ?_) FU ((0 : Int32), (0 : Int32))
            refine vv_iload_n (i := 3) 94 hk dX12_count_93 rfl rfl rfl ?_
            refine vv_aload_n (i := 0) 95 hk dX12_count_94 rfl rfl rfl ?_
            refine vv_getI 98 hk he dX12_count_95 rfl la_86 rfl ci_12 rfl fl_12_214 sd_86 ?_
            refine vv_icmp_ge 124 101 hk dX12_count_98 rfl rfl ?_ ?_
            · skip
              refine vv_iload_n (i := 2) 125 hk dX12_count_124 rfl rfl rfl ?_
              exact hret _ _ _ dX12_count_125
            · skip
              refine vv_iload_n (i := 2) 102 hk dX12_count_101 rfl rfl rfl ?_
              refine vv_aload_n (i := 0) 103 hk dX12_count_102 rfl rfl rfl ?_
              refine vv_getR 106 hk dX12_count_103 rfl la_86 rfl ci_12 rfl fl_12_61 ?_
              refine vv_iload_n (i := 3) 107 hk dX12_count_106 rfl rfl rfl ?_
              refine vv_zald 108 hk he dX12_count_107 rfl la_104 sd_104 (fun v3 => ?_)
              refine vv_jn (fun t4 => (σ, 116, [some (rf G 86), none, none, some (.int t2.2)], [(.int t4), (.int t2.1)])) (fun t4 => ?_) (fun k116 hk116 => ?_)
              · skip
                refine vv_iadd 117 hk dX12_count_116 rfl ?_
                refine vv_istore_nL (i := 2) 118 (fun x5 => [some (rf G 86), none, some (.int x5), some (.int t2.2)]) hk dX12_count_117 rfl rfl rfl (fun _ => rfl) (fun x5 => ?_)
                refine vv_iinc 121 (fun x6 => [some (rf G 86), none, some (.int x5), some (.int x6)]) hk dX12_count_118 rfl rfl ic_1 (fun _ => rfl) (fun x6 => ?_)
                refine vv_goto 93 hk dX12_count_121 rfl ?_
                exact vv_le (ll_s rfl (ll_n (ll_s rfl (ll_s rfl ll_0)))) (hkl93 (x5, x6))
              · skip
                refine vv_if_eq 115 111 hk dX12_count_108 rfl rfl ?_ ?_
                · skip
                  refine vv_iconst 116 hk dX12_count_115 rfl ic_0 ?_
                  exact vv_le (ll_s rfl (ll_n (ll_n (ll_s rfl ll_0)))) (hk116 (0 : Int32))
                · skip
                  refine vv_iconst 112 hk dX12_count_111 rfl ic_1 ?_
                  refine vv_goto 116 hk dX12_count_112 rfl ?_
                  exact vv_le (ll_s rfl (ll_n (ll_n (ll_s rfl ll_0)))) (hk116 (1 : Int32))
          · skip
            refine vv_case (fun h4 => ?_) (fun h4 => ?_)
            · skip
              refine vv_tabIn 126 hk dX12_count_27 (by rw [h4]; decide +kernel) (by rw [h4]; decide +kernel) (off := 99) (by rw [h4]; decide +kernel) rfl ?_
              refine vv_aload_n (i := 0) 127 hk dX12_count_126 rfl rfl rfl ?_
              refine vv_getI 130 hk he dX12_count_127 rfl la_86 rfl ci_12 rfl fl_12_217 sd_86 ?_
              exact hret _ _ _ dX12_count_130
            · skip
              refine vv_case (fun h5 => ?_) (fun h5 => ?_)
              · skip
                refine vv_tabIn 131 hk dX12_count_27 (by rw [h5]; decide +kernel) (by rw [h5]; decide +kernel) (off := 104) (by rw [h5]; decide +kernel) rfl ?_
                refine vv_iconst 132 hk dX12_count_131 rfl ic_0 ?_
                refine vv_istore_n (i := 3) 133 [some (rf G 86), some (.int a1), some (.int (0 : Int32)), some (.int (0 : Int32))] hk dX12_count_132 rfl rfl rfl rfl ?_
                refine vv_le (L' := [some (rf G 86), none, some (.int (0 : Int32)), some (.int (0 : Int32))]) (ll_s rfl (ll_n (ll_s rfl (ll_s rfl ll_0)))) ?_
                refine vv_lp (fun t7 => (σ, 133, [some (rf G 86), none, some (.int t7.1), some (.int t7.2)], [])) (fun kl133 hkl133 t7 => ?_) FU ((0 : Int32), (0 : Int32))
                refine vv_iload_n (i := 3) 134 hk dX12_count_133 rfl rfl rfl ?_
                refine vv_aload_n (i := 0) 135 hk dX12_count_134 rfl rfl rfl ?_
                refine vv_getI 138 hk he dX12_count_135 rfl la_86 rfl ci_12 rfl fl_12_217 sd_86 ?_
                refine vv_icmp_ge 164 141 hk dX12_count_138 rfl rfl ?_ ?_
                · skip
                  refine vv_iload_n (i := 2) 165 hk dX12_count_164 rfl rfl rfl ?_
                  exact hret _ _ _ dX12_count_165
                · skip
                  refine vv_iload_n (i := 2) 142 hk dX12_count_141 rfl rfl rfl ?_
                  refine vv_aload_n (i := 0) 143 hk dX12_count_142 rfl rfl rfl ?_
                  refine vv_getR 146 hk dX12_count_143 rfl la_86 rfl ci_12 rfl fl_12_65 ?_
                  refine vv_iload_n (i := 3) 147 hk dX12_count_146 rfl rfl rfl ?_
                  refine vv_zald 148 hk he dX12_count_147 rfl la_105 sd_105 (fun v8 => ?_)
                  refine vv_jn (fun t9 => (σ, 156, [some (rf G 86), none, none, some (.int t7.2)], [(.int t9), (.int t7.1)])) (fun t9 => ?_) (fun k156 hk156 => ?_)
                  · skip
                    refine vv_iadd 157 hk dX12_count_156 rfl ?_
                    refine vv_istore_nL (i := 2) 158 (fun x10 => [some (rf G 86), none, some (.int x10), some (.int t7.2)]) hk dX12_count_157 rfl rfl rfl (fun _ => rfl) (fun x10 => ?_)
                    refine vv_iinc 161 (fun x11 => [some (rf G 86), none, some (.int x10), some (.int x11)]) hk dX12_count_158 rfl rfl ic_1 (fun _ => rfl) (fun x11 => ?_)
                    refine vv_goto 133 hk dX12_count_161 rfl ?_
                    exact vv_le (ll_s rfl (ll_n (ll_s rfl (ll_s rfl ll_0)))) (hkl133 (x10, x11))
                  · skip
                    refine vv_if_eq 155 151 hk dX12_count_148 rfl rfl ?_ ?_
                    · skip
                      refine vv_iconst 156 hk dX12_count_155 rfl ic_0 ?_
                      exact vv_le (ll_s rfl (ll_n (ll_n (ll_s rfl ll_0)))) (hk156 (0 : Int32))
                    · skip
                      refine vv_iconst 152 hk dX12_count_151 rfl ic_1 ?_
                      refine vv_goto 156 hk dX12_count_152 rfl ?_
                      exact vv_le (ll_s rfl (ll_n (ll_n (ll_s rfl ll_0)))) (hk156 (1 : Int32))
              · skip
                refine vv_case (fun h6 => ?_) (fun h6 => ?_)
                · skip
                  refine vv_tabIn 166 hk dX12_count_27 (by rw [h6]; decide +kernel) (by rw [h6]; decide +kernel) (off := 139) (by rw [h6]; decide +kernel) rfl ?_
                  refine vv_iconst 167 hk dX12_count_166 rfl ic_0 ?_
                  refine vv_istore_n (i := 3) 168 [some (rf G 86), some (.int a1), some (.int (0 : Int32)), some (.int (0 : Int32))] hk dX12_count_167 rfl rfl rfl rfl ?_
                  refine vv_le (L' := [some (rf G 86), none, some (.int (0 : Int32)), some (.int (0 : Int32))]) (ll_s rfl (ll_n (ll_s rfl (ll_s rfl ll_0)))) ?_
                  refine vv_lp (fun t12 => (σ, 168, [some (rf G 86), none, some (.int t12.1), some (.int t12.2)], [])) (fun kl168 hkl168 t12 => ?_) FU ((0 : Int32), (0 : Int32))
                  refine vv_iload_n (i := 3) 169 hk dX12_count_168 rfl rfl rfl ?_
                  refine vv_aload_n (i := 0) 170 hk dX12_count_169 rfl rfl rfl ?_
                  refine vv_getI 173 hk he dX12_count_170 rfl la_86 rfl ci_12 rfl fl_12_336 sd_86 ?_
                  refine vv_icmp_ge 199 176 hk dX12_count_173 rfl rfl ?_ ?_
                  · skip
                    refine vv_iload_n (i := 2) 200 hk dX12_count_199 rfl rfl rfl ?_
                    exact hret _ _ _ dX12_count_200
                  · skip
                    refine vv_iload_n (i := 2) 177 hk dX12_count_176 rfl rfl rfl ?_
                    refine vv_aload_n (i := 0) 178 hk dX12_count_177 rfl rfl rfl ?_
                    refine vv_getR 181 hk dX12_count_178 rfl la_86 rfl ci_12 rfl fl_12_107 ?_
                    refine vv_iload_n (i := 3) 182 hk dX12_count_181 rfl rfl rfl ?_
                    refine vv_zald 183 hk he dX12_count_182 rfl la_119 sd_119 (fun v13 => ?_)
                    refine vv_jn (fun t14 => (σ, 191, [some (rf G 86), none, none, some (.int t12.2)], [(.int t14), (.int t12.1)])) (fun t14 => ?_) (fun k191 hk191 => ?_)
                    · skip
                      refine vv_iadd 192 hk dX12_count_191 rfl ?_
                      refine vv_istore_nL (i := 2) 193 (fun x15 => [some (rf G 86), none, some (.int x15), some (.int t12.2)]) hk dX12_count_192 rfl rfl rfl (fun _ => rfl) (fun x15 => ?_)
                      refine vv_iinc 196 (fun x16 => [some (rf G 86), none, some (.int x15), some (.int x16)]) hk dX12_count_193 rfl rfl ic_1 (fun _ => rfl) (fun x16 => ?_)
                      refine vv_goto 168 hk dX12_count_196 rfl ?_
                      exact vv_le (ll_s rfl (ll_n (ll_s rfl (ll_s rfl ll_0)))) (hkl168 (x15, x16))
                    · skip
                      refine vv_if_eq 190 186 hk dX12_count_183 rfl rfl ?_ ?_
                      · skip
                        refine vv_iconst 191 hk dX12_count_190 rfl ic_1 ?_
                        exact vv_le (ll_s rfl (ll_n (ll_n (ll_s rfl ll_0)))) (hk191 (1 : Int32))
                      · skip
                        refine vv_iconst 187 hk dX12_count_186 rfl ic_0 ?_
                        refine vv_goto 191 hk dX12_count_187 rfl ?_
                        exact vv_le (ll_s rfl (ll_n (ll_n (ll_s rfl ll_0)))) (hk191 (0 : Int32))
                · skip
                  refine vv_case (fun h7 => ?_) (fun h7 => ?_)
                  · skip
                    refine vv_tabIn 201 hk dX12_count_27 (by rw [h7]; decide +kernel) (by rw [h7]; decide +kernel) (off := 174) (by rw [h7]; decide +kernel) rfl ?_
                    refine vv_aload_n (i := 0) 202 hk dX12_count_201 rfl rfl rfl ?_
                    refine vv_getI 205 hk he dX12_count_202 rfl la_86 rfl ci_12 rfl fl_12_376 sd_86 ?_
                    exact hret _ _ _ dX12_count_205
                  · skip
                    refine vv_case (fun h8 => ?_) (fun h8 => ?_)
                    · skip
                      refine vv_tabIn 206 hk dX12_count_27 (by rw [h8]; decide +kernel) (by rw [h8]; decide +kernel) (off := 179) (by rw [h8]; decide +kernel) rfl ?_
                      refine vv_aload_n (i := 0) 207 hk dX12_count_206 rfl rfl rfl ?_
                      refine vv_getI 210 hk he dX12_count_207 rfl la_86 rfl ci_12 rfl fl_12_308 sd_86 ?_
                      exact hret _ _ _ dX12_count_210
                    · skip
                      refine vv_tabOut 211 hk dX12_count_27 (by have q0 := ne_int h0; have q1 := ne_int h1; have q2 := ne_int h2; have q3 := ne_int h3; have q4 := ne_int h4; have q5 := ne_int h5; have q6 := ne_int h6; have q7 := ne_int h7; have q8 := ne_int h8; rw [ti_0] at q0; rw [ti_1] at q1; rw [ti_2] at q2; rw [ti_3] at q3; rw [ti_4] at q4; rw [ti_5] at q5; rw [ti_6] at q6; rw [ti_7] at q7; rw [ti_8] at q8; omega) rfl ?_
                      refine vv_bipush 213 hk dX12_count_211 rfl bp_m9 ?_
                      exact hret _ _ _ dX12_count_213
  · skip
    refine vv_aload_n (i := 0) 15 hk dX12_count_14 rfl rfl rfl ?_
    refine vv_getR 18 hk dX12_count_15 rfl la_86 rfl ci_12 rfl fl_12_7 ?_
    refine vv_iload_n (i := 1) 19 hk dX12_count_18 rfl rfl rfl ?_
    refine vv_bipush 21 hk dX12_count_19 rfl bp_10 ?_
    refine vv_isub 22 hk dX12_count_21 rfl ?_
    refine vv_iald 23 hk he dX12_count_22 rfl la_87 sd_87 (fun v17 => ?_)
    exact hret _ _ _ dX12_count_23
theorem c_X12_divisor (G : GT) (a1 : Int64) (a2 : Int64) (σ : Hp) : CtJ G false yX12_divisor cX12_divisor 10 (some .long) 0 [(.long a1), (.long a2)] (rdJ (f_X12_divisor a1 a2) σ) σ := by
  refine ctJr (L0 := [some (.long a1), none, some (.long a2), none, none, none, none, none, none, none]) (by decide +kernel) rfl rfl rfl (fun κ hk he hret => ?_)
  have hk : KO G κ cX12_divisor RX12 0 := hk
  refine vv_lload_n (i := 0) 1 hk dX12_divisor_0 rfl rfl rfl ?_
  refine vv_lconst 2 hk dX12_divisor_1 rfl lc_0 ?_
  refine vv_lcmp 3 hk dX12_divisor_2 rfl ?_
  refine vv_jn (fun t1 => (σ, 12, [none, none, some (.long a2), none, none, none, none, none, none, none], [(.long t1)])) (fun t1 => ?_) (fun k12 hk12 => ?_)
  · skip
    refine vv_lstore 14 [none, none, some (.long a2), none, some (.long t1), none, none, none, none, none] hk dX12_divisor_12 rfl rfl rfl ?_
    refine vv_lload_n (i := 2) 15 hk dX12_divisor_14 rfl rfl rfl ?_
    refine vv_lconst 16 hk dX12_divisor_15 rfl lc_0 ?_
    refine vv_lcmp 17 hk dX12_divisor_16 rfl ?_
    refine vv_jn (fun t2 => (σ, 26, [none, none, none, none, some (.long t1), none, none, none, none, none], [(.long t2)])) (fun t2 => ?_) (fun k26 hk26 => ?_)
    · skip
      refine vv_lstore 28 [none, none, none, none, some (.long t1), none, some (.long t2), none, none, none] hk dX12_divisor_26 rfl rfl rfl ?_
      refine vv_lp (fun t3 => (σ, 28, [none, none, none, none, some (.long t3.1), none, some (.long t3.2), none, none, none], [])) (fun kl28 hkl28 t3 => ?_) FU (t1, t2)
      refine vv_lload 30 hk dX12_divisor_28 rfl rfl ?_
      refine vv_lconst 31 hk dX12_divisor_30 rfl lc_0 ?_
      refine vv_lcmp 32 hk dX12_divisor_31 rfl ?_
      refine vv_if_eq 53 35 hk dX12_divisor_32 rfl rfl ?_ ?_
      · skip
        refine vv_lload 55 hk dX12_divisor_53 rfl rfl ?_
        exact hret _ _ _ dX12_divisor_55
      · skip
        refine vv_lload 37 hk dX12_divisor_35 rfl rfl ?_
        refine vv_lload 39 hk dX12_divisor_37 rfl rfl ?_
        refine vv_lrem 40 hk dX12_divisor_39 rfl ?_
        refine vv_lstoreL 42 (fun x4 => [none, none, none, none, some (.long t3.1), none, some (.long t3.2), none, some (.long x4), none]) hk dX12_divisor_40 rfl rfl (fun _ => rfl) (fun x4 => ?_)
        refine vv_lload 44 hk dX12_divisor_42 rfl rfl ?_
        refine vv_lstore 46 [none, none, none, none, some (.long t3.2), none, some (.long t3.2), none, some (.long x4), none] hk dX12_divisor_44 rfl rfl rfl ?_
        refine vv_lload 48 hk dX12_divisor_46 rfl rfl ?_
        refine vv_lstore 50 [none, none, none, none, some (.long t3.2), none, some (.long x4), none, some (.long x4), none] hk dX12_divisor_48 rfl rfl rfl ?_
        refine vv_goto 28 hk dX12_divisor_50 rfl ?_
        exact vv_le (ll_n (ll_n (ll_n (ll_n (ll_s rfl (ll_n (ll_s rfl (ll_n (ll_n (ll_n ll_0)))))))))) (hkl28 (t3.2, x4))
    · skip
      refine vv_if_ge 25 20 hk dX12_divisor_17 rfl rfl ?_ ?_
      · skip
        refine vv_lload_n (i := 2) 26 hk dX12_divisor_25 rfl rfl rfl ?_
        exact vv_le (ll_n (ll_n (ll_n (ll_n (ll_s rfl (ll_n (ll_n (ll_n (ll_n (ll_n ll_0)))))))))) (hk26 a2)
      · skip
        refine vv_lload_n (i := 2) 21 hk dX12_divisor_20 rfl rfl rfl ?_
        refine vv_lneg 22 hk dX12_divisor_21 rfl ?_
        refine vv_goto 26 hk dX12_divisor_22 rfl ?_
        exact vv_le (ll_n (ll_n (ll_n (ll_n (ll_s rfl (ll_n (ll_n (ll_n (ll_n (ll_n ll_0)))))))))) (hk26 (-a2))
  · skip
    refine vv_if_ge 11 6 hk dX12_divisor_3 rfl rfl ?_ ?_
    · skip
      refine vv_lload_n (i := 0) 12 hk dX12_divisor_11 rfl rfl rfl ?_
      exact vv_le (ll_n (ll_n (ll_s rfl (ll_n (ll_n (ll_n (ll_n (ll_n (ll_n (ll_n ll_0)))))))))) (hk12 a1)
    · skip
      refine vv_lload_n (i := 0) 7 hk dX12_divisor_6 rfl rfl rfl ?_
      refine vv_lneg 8 hk dX12_divisor_7 rfl ?_
      refine vv_goto 12 hk dX12_divisor_8 rfl ?_
      exact vv_le (ll_n (ll_n (ll_s rfl (ll_n (ll_n (ll_n (ll_n (ll_n (ll_n (ll_n ll_0)))))))))) (hk12 (-a1))
theorem c_X12_out (G : GT) (a1 : Int64) (a2 : Int64) (a3 : Int64) (σ : Hp) : CtI G false yX12_out cX12_out 6 (some .int) 0 [(.long a1), (.long a2), (.long a3)] (rdI (f_X12_out a1 a2 a3) σ) σ := by
  refine ctIr (L0 := [some (.long a1), none, some (.long a2), none, some (.long a3), none]) (by decide +kernel) rfl rfl rfl (fun κ hk he hret => ?_)
  have hk : KO G κ cX12_out RX12 0 := hk
  refine vv_lload_n (i := 0) 1 hk dX12_out_0 rfl rfl rfl ?_
  refine vv_lload_n (i := 2) 2 hk dX12_out_1 rfl rfl rfl ?_
  refine vv_lcmp 3 hk dX12_out_2 rfl ?_
  refine vv_jn (fun t1 => (σ, 24, [none, none, none, none, none, none], [(.int t1)])) (fun t1 => ?_) (fun k24 hk24 => ?_)
  · skip
    exact hret _ _ _ dX12_out_24
  · skip
    refine vv_if_ge 11 6 hk dX12_out_3 rfl rfl ?_ ?_
    · skip
      refine vv_lload_n (i := 0) 12 hk dX12_out_11 rfl rfl rfl ?_
      refine vv_lload 14 hk dX12_out_12 rfl rfl ?_
      refine vv_lcmp 15 hk dX12_out_14 rfl ?_
      refine vv_if_le 23 18 hk dX12_out_15 rfl rfl ?_ ?_
      · skip
        refine vv_iconst 24 hk dX12_out_23 rfl ic_0 ?_
        exact vv_le (ll_n (ll_n (ll_n (ll_n (ll_n (ll_n ll_0)))))) (hk24 (0 : Int32))
      · skip
        refine vv_bipush 20 hk dX12_out_18 rfl bp_m6 ?_
        refine vv_goto 24 hk dX12_out_20 rfl ?_
        exact vv_le (ll_n (ll_n (ll_n (ll_n (ll_n (ll_n ll_0)))))) (hk24 (-6 : Int32))
    · skip
      refine vv_bipush 8 hk dX12_out_6 rfl bp_m4 ?_
      refine vv_goto 24 hk dX12_out_8 rfl ?_
      exact vv_le (ll_n (ll_n (ll_n (ll_n (ll_n (ll_n ll_0)))))) (hk24 (-4 : Int32))
theorem c_X12_feed (G : GT) (a1 : Int32) (a2 : Int64) (σ : Hp) : CtI G false yX12_feed cX12_feed 6 (some .int) 1 [(rf G 86), (.int a1), (.long a2)] (f_X12_feed a1 a2 σ) σ := by
  refine ctI (L0 := [some (rf G 86), some (.int a1), some (.long a2), none, none, none]) (by decide +kernel) rfl rfl rfl (fun κ hk he hret => ?_)
  have hk : KO G κ cX12_feed RX12 1 := hk
  refine vv_iload_n (i := 1) 1 hk dX12_feed_0 rfl rfl rfl ?_
  refine vv_i2l 2 hk dX12_feed_1 rfl ?_
  refine vv_lconst 3 hk dX12_feed_2 rfl lc_1 ?_
  refine vv_ldc2 6 hk dX12_feed_3 rfl cw_12_306 ?_
  refine vv_staIr (st := []) 9 hk he dX12_feed_6 rfl ml_12_232 sf_X12_out (c_X12_out G a1.toInt64 (1 : Int64) (8 : Int64) σ) rfl rfl rfl rfl (fun v1 => ?_)
  refine vv_istore 11 [some (rf G 86), some (.int a1), some (.long a2), none, some (.int v1), none] hk dX12_feed_9 rfl rfl rfl ?_
  refine vv_iload 13 hk dX12_feed_11 rfl rfl ?_
  refine vv_jn (fun t2 => (σ, 31, [some (rf G 86), some (.int a1), some (.long a2), none, some (.int t2), none], [])) (fun t2 => ?_) (fun k31 hk31 => ?_)
  · skip
    refine vv_iload 33 hk dX12_feed_31 rfl rfl ?_
    refine vv_if_eq 43 36 hk dX12_feed_33 rfl rfl ?_ ?_
    · skip
      refine vv_iconst 44 hk dX12_feed_43 rfl ic_0 ?_
      refine vv_istore 46 [some (rf G 86), some (.int a1), some (.long a2), none, some (.int t2), some (.int (0 : Int32))] hk dX12_feed_44 rfl rfl rfl ?_
      refine vv_le (L' := [some (rf G 86), some (.int a1), some (.long a2), none, none, some (.int (0 : Int32))]) (ll_s rfl (ll_s rfl (ll_s rfl (ll_n (ll_n (ll_s rfl ll_0)))))) ?_
      refine vv_lp (fun t3 => (t3.2, 46, [some (rf G 86), some (.int a1), some (.long a2), none, none, some (.int t3.1)], [])) (fun kl46 hkl46 t3 => ?_) FU ((0 : Int32), σ)
      refine vv_iload 48 hk dX12_feed_46 rfl rfl ?_
      refine vv_iload_n (i := 1) 49 hk dX12_feed_48 rfl rfl rfl ?_
      refine vv_icmp_ge 89 52 hk dX12_feed_49 rfl rfl ?_ ?_
      · skip
        refine vv_aload_n (i := 0) 90 hk dX12_feed_89 rfl rfl rfl ?_
        refine vv_getI 93 hk he dX12_feed_90 rfl la_86 rfl ci_12 rfl fl_12_308 sd_86 ?_
        exact hret _ _ _ _ dX12_feed_93
      · skip
        refine vv_aload_n (i := 0) 53 hk dX12_feed_52 rfl rfl rfl ?_
        refine vv_getR 56 hk dX12_feed_53 rfl la_86 rfl ci_12 rfl fl_12_95 ?_
        refine vv_aload_n (i := 0) 57 hk dX12_feed_56 rfl rfl rfl ?_
        refine vv_getI 60 hk he dX12_feed_57 rfl la_86 rfl ci_12 rfl fl_12_308 sd_86 ?_
        refine vv_lload_n (i := 2) 61 hk dX12_feed_60 rfl rfl rfl ?_
        refine vv_bipush 63 hk dX12_feed_61 rfl bp_8 ?_
        refine vv_iload 65 hk dX12_feed_63 rfl rfl ?_
        refine vv_imul 66 hk dX12_feed_65 rfl ?_
        refine vv_lshr 67 hk dX12_feed_66 rfl ?_
        refine vv_ldc2 70 hk dX12_feed_67 rfl cw_12_311 ?_
        refine vv_land 71 hk dX12_feed_70 rfl ?_
        refine vv_l2i 72 hk dX12_feed_71 rfl ?_
        refine vv_iast 73 hk he dX12_feed_72 rfl la_115 sd_115 (fun σ4 => ?_)
        refine vv_aload_n (i := 0) 74 hk dX12_feed_73 rfl rfl rfl ?_
        refine vv_dup 75 hk dX12_feed_74 rfl rfl ?_
        refine vv_getI 78 hk he dX12_feed_75 rfl la_86 rfl ci_12 rfl fl_12_308 sd_86 ?_
        refine vv_iconst 79 hk dX12_feed_78 rfl ic_1 ?_
        refine vv_iadd 80 hk dX12_feed_79 rfl ?_
        refine vv_putI 83 hk he dX12_feed_80 rfl la_86 rfl ci_12 rfl fl_12_308 sd_86 rfl rfl (fun σ5 => ?_)
        refine vv_iinc 86 (fun x6 => [some (rf G 86), some (.int a1), some (.long a2), none, none, some (.int x6)]) hk dX12_feed_83 rfl rfl ic_1 (fun _ => rfl) (fun x6 => ?_)
        refine vv_goto 46 hk dX12_feed_86 rfl ?_
        exact vv_le (ll_s rfl (ll_s rfl (ll_s rfl (ll_n (ll_n (ll_s rfl ll_0)))))) (hkl46 (x6, σ5))
    · skip
      refine vv_aload_n (i := 0) 37 hk dX12_feed_36 rfl rfl rfl ?_
      refine vv_iload 39 hk dX12_feed_37 rfl rfl ?_
      refine vv_invI (st := []) 42 hk he dX12_feed_39 rfl ml_12_226 cf_X12_no la_86 ci_12 (c_X12_no G t2 σ) rfl rfl rfl rfl (fun v7 σ8 => ?_)
      exact hret _ _ _ _ dX12_feed_42
  · skip
    refine vv_if_ne 31 16 hk dX12_feed_13 rfl rfl ?_ ?_
    · skip
      refine vv_aload_n (i := 0) 17 hk dX12_feed_16 rfl rfl rfl ?_
      refine vv_getI 20 hk he dX12_feed_17 rfl la_86 rfl ci_12 rfl fl_12_308 sd_86 ?_
      refine vv_iload_n (i := 1) 21 hk dX12_feed_20 rfl rfl rfl ?_
      refine vv_iadd 22 hk dX12_feed_21 rfl ?_
      refine vv_bipush 24 hk dX12_feed_22 rfl bp_40 ?_
      refine vv_icmp_le 31 27 hk dX12_feed_24 rfl rfl ?_ ?_
      · skip
        exact vv_le (ll_s rfl (ll_s rfl (ll_s rfl (ll_n (ll_s rfl (ll_n ll_0)))))) (hk31 v1)
      · skip
        refine vv_bipush 29 hk dX12_feed_27 rfl bp_m6 ?_
        refine vv_istore 31 [some (rf G 86), some (.int a1), some (.long a2), none, some (.int (-6 : Int32)), none] hk dX12_feed_29 rfl rfl rfl ?_
        exact vv_le (ll_s rfl (ll_s rfl (ll_s rfl (ll_n (ll_s rfl (ll_n ll_0)))))) (hk31 (-6 : Int32))
    · skip
      exact vv_le (ll_s rfl (ll_s rfl (ll_s rfl (ll_n (ll_s rfl (ll_n ll_0)))))) (hk31 v1)
theorem c_X12_waitsFor (G : GT) (a1 : Int32) (σ : Hp) : CtV G false yX12_waitsFor cX12_waitsFor 2 none 0 [(rf G 86), (.int a1)] (f_X12_waitsFor a1 σ) σ := by
  refine ctV (L0 := [some (rf G 86), some (.int a1)]) (by decide +kernel) rfl rfl rfl (fun κ hk he hret => ?_)
  have hk : KO G κ cX12_waitsFor RX12 0 := hk
  refine vv_aload_n (i := 0) 1 hk dX12_waitsFor_0 rfl rfl rfl ?_
  refine vv_getR 4 hk dX12_waitsFor_1 rfl la_86 rfl ci_12 rfl fl_12_110 ?_
  refine vv_aload_n (i := 0) 5 hk dX12_waitsFor_4 rfl rfl rfl ?_
  refine vv_getI 8 hk he dX12_waitsFor_5 rfl la_86 rfl ci_12 rfl fl_12_354 sd_86 ?_
  refine vv_iload_n (i := 1) 9 hk dX12_waitsFor_8 rfl rfl rfl ?_
  refine vv_iast 10 hk he dX12_waitsFor_9 rfl la_120 sd_120 (fun σ1 => ?_)
  refine vv_aload_n (i := 0) 11 hk dX12_waitsFor_10 rfl rfl rfl ?_
  refine vv_dup 12 hk dX12_waitsFor_11 rfl rfl ?_
  refine vv_getI 15 hk he dX12_waitsFor_12 rfl la_86 rfl ci_12 rfl fl_12_354 sd_86 ?_
  refine vv_iconst 16 hk dX12_waitsFor_15 rfl ic_1 ?_
  refine vv_iadd 17 hk dX12_waitsFor_16 rfl ?_
  refine vv_putI 20 hk he dX12_waitsFor_17 rfl la_86 rfl ci_12 rfl fl_12_354 sd_86 rfl rfl (fun σ2 => ?_)
  exact hret _ _ _ dX12_waitsFor_20
theorem c_X12_works (G : GT) (a1 : Int32) (σ : Hp) : CtV G false yX12_works cX12_works 3 none 0 [(rf G 86), (.int a1)] (f_X12_works a1 σ) σ := by
  refine ctV (L0 := [some (rf G 86), some (.int a1), none]) (by decide +kernel) rfl rfl rfl (fun κ hk he hret => ?_)
  have hk : KO G κ cX12_works RX12 0 := hk
  refine vv_lp (fun t1 => (t1, 0, [some (rf G 86), some (.int a1), none], [])) (fun kl0 hkl0 t1 => ?_) FU σ
  refine vv_aload_n (i := 0) 1 hk dX12_works_0 rfl rfl rfl ?_
  refine vv_getI 4 hk he dX12_works_1 rfl la_86 rfl ci_12 rfl fl_12_354 sd_86 ?_
  refine vv_if_le 147 7 hk dX12_works_4 rfl rfl ?_ ?_
  · skip
    exact hret _ _ _ dX12_works_147
  · skip
    refine vv_aload_n (i := 0) 8 hk dX12_works_7 rfl rfl rfl ?_
    refine vv_getR 11 hk dX12_works_8 rfl la_86 rfl ci_12 rfl fl_12_110 ?_
    refine vv_aload_n (i := 0) 12 hk dX12_works_11 rfl rfl rfl ?_
    refine vv_getI 15 hk he dX12_works_12 rfl la_86 rfl ci_12 rfl fl_12_354 sd_86 ?_
    refine vv_iconst 16 hk dX12_works_15 rfl ic_1 ?_
    refine vv_isub 17 hk dX12_works_16 rfl ?_
    refine vv_iald 18 hk he dX12_works_17 rfl la_120 sd_120 (fun v2 => ?_)
    refine vv_iload_n (i := 1) 19 hk dX12_works_18 rfl rfl rfl ?_
    refine vv_icmp_gt 147 22 hk dX12_works_19 rfl rfl ?_ ?_
    · skip
      exact hret _ _ _ dX12_works_147
    · skip
      refine vv_aload_n (i := 0) 23 hk dX12_works_22 rfl rfl rfl ?_
      refine vv_dup 24 hk dX12_works_23 rfl rfl ?_
      refine vv_getI 27 hk he dX12_works_24 rfl la_86 rfl ci_12 rfl fl_12_354 sd_86 ?_
      refine vv_iconst 28 hk dX12_works_27 rfl ic_1 ?_
      refine vv_isub 29 hk dX12_works_28 rfl ?_
      refine vv_putI 32 hk he dX12_works_29 rfl la_86 rfl ci_12 rfl fl_12_354 sd_86 rfl rfl (fun σ3 => ?_)
      refine vv_aload_n (i := 0) 33 hk dX12_works_32 rfl rfl rfl ?_
      refine vv_getR 36 hk dX12_works_33 rfl la_86 rfl ci_12 rfl fl_12_110 ?_
      refine vv_aload_n (i := 0) 37 hk dX12_works_36 rfl rfl rfl ?_
      refine vv_getI 40 hk he dX12_works_37 rfl la_86 rfl ci_12 rfl fl_12_354 sd_86 ?_
      refine vv_iald 41 hk he dX12_works_40 rfl la_120 sd_120 (fun v4 => ?_)
      refine vv_istore_n (i := 2) 42 [some (rf G 86), some (.int a1), some (.int v4)] hk dX12_works_41 rfl rfl rfl rfl ?_
      refine vv_iload_n (i := 2) 43 hk dX12_works_42 rfl rfl rfl ?_
      refine vv_jn (fun t5 => (t5, 144, [some (rf G 86), some (.int a1), none], [])) (fun t5 => ?_) (fun k144 hk144 => ?_)
      · skip
        refine vv_goto 0 hk dX12_works_144 rfl ?_
        exact vv_le (ll_s rfl (ll_s rfl (ll_n ll_0))) (hkl0 t5)
      · skip
        refine vv_if_ne 73 46 hk dX12_works_43 rfl rfl ?_ ?_
        · skip
          refine vv_aload_n (i := 0) 47 hk dX12_works_46 rfl rfl rfl ?_
          refine vv_getR 50 hk dX12_works_47 rfl la_86 rfl ci_12 rfl fl_12_113 ?_
          refine vv_aload_n (i := 0) 51 hk dX12_works_50 rfl rfl rfl ?_
          refine vv_getI 54 hk he dX12_works_51 rfl la_86 rfl ci_12 rfl fl_12_357 sd_86 ?_
          refine vv_iconst 55 hk dX12_works_54 rfl ic_1 ?_
          refine vv_isub 56 hk dX12_works_55 rfl ?_
          refine vv_iconst 57 hk dX12_works_56 rfl ic_1 ?_
          refine vv_aload_n (i := 0) 58 hk dX12_works_57 rfl rfl rfl ?_
          refine vv_getR 61 hk dX12_works_58 rfl la_86 rfl ci_12 rfl fl_12_113 ?_
          refine vv_aload_n (i := 0) 62 hk dX12_works_61 rfl rfl rfl ?_
          refine vv_getI 65 hk he dX12_works_62 rfl la_86 rfl ci_12 rfl fl_12_357 sd_86 ?_
          refine vv_iconst 66 hk dX12_works_65 rfl ic_1 ?_
          refine vv_isub 67 hk dX12_works_66 rfl ?_
          refine vv_iald 68 hk he dX12_works_67 rfl la_121 sd_121 (fun v6 => ?_)
          refine vv_isub 69 hk dX12_works_68 rfl ?_
          refine vv_iast 70 hk he dX12_works_69 rfl la_121 sd_121 (fun σ7 => ?_)
          refine vv_goto 144 hk dX12_works_70 rfl ?_
          exact vv_le (ll_s rfl (ll_s rfl (ll_n ll_0))) (hk144 σ7)
        · skip
          refine vv_aload_n (i := 0) 74 hk dX12_works_73 rfl rfl rfl ?_
          refine vv_dup 75 hk dX12_works_74 rfl rfl ?_
          refine vv_getI 78 hk he dX12_works_75 rfl la_86 rfl ci_12 rfl fl_12_357 sd_86 ?_
          refine vv_iconst 79 hk dX12_works_78 rfl ic_1 ?_
          refine vv_isub 80 hk dX12_works_79 rfl ?_
          refine vv_putI 83 hk he dX12_works_80 rfl la_86 rfl ci_12 rfl fl_12_357 sd_86 rfl rfl (fun σ8 => ?_)
          refine vv_aload_n (i := 0) 84 hk dX12_works_83 rfl rfl rfl ?_
          refine vv_getR 87 hk dX12_works_84 rfl la_86 rfl ci_12 rfl fl_12_113 ?_
          refine vv_aload_n (i := 0) 88 hk dX12_works_87 rfl rfl rfl ?_
          refine vv_getI 91 hk he dX12_works_88 rfl la_86 rfl ci_12 rfl fl_12_357 sd_86 ?_
          refine vv_iconst 92 hk dX12_works_91 rfl ic_1 ?_
          refine vv_isub 93 hk dX12_works_92 rfl ?_
          refine vv_iload_n (i := 2) 94 hk dX12_works_93 rfl rfl rfl ?_
          refine vv_iconst 95 hk dX12_works_94 rfl ic_1 ?_
          refine vv_jn (fun t9 => (σ8, 143, [some (rf G 86), some (.int a1), none], [(.int t9), (.int ((σ8.1 86 45) - (1 : Int32))), (rf G 121)])) (fun t9 => ?_) (fun k143 hk143 => ?_)
          · skip
            refine vv_iast 144 hk he dX12_works_143 rfl la_121 sd_121 (fun σ10 => ?_)
            exact vv_le (ll_s rfl (ll_s rfl (ll_n ll_0))) (hk144 σ10)
          · skip
            refine vv_icmp_ne 122 98 hk dX12_works_95 rfl rfl ?_ ?_
            · skip
              refine vv_aload_n (i := 0) 99 hk dX12_works_98 rfl rfl rfl ?_
              refine vv_getR 102 hk dX12_works_99 rfl la_86 rfl ci_12 rfl fl_12_113 ?_
              refine vv_aload_n (i := 0) 103 hk dX12_works_102 rfl rfl rfl ?_
              refine vv_getI 106 hk he dX12_works_103 rfl la_86 rfl ci_12 rfl fl_12_357 sd_86 ?_
              refine vv_iconst 107 hk dX12_works_106 rfl ic_1 ?_
              refine vv_isub 108 hk dX12_works_107 rfl ?_
              refine vv_iald 109 hk he dX12_works_108 rfl la_121 sd_121 (fun v11 => ?_)
              refine vv_aload_n (i := 0) 110 hk dX12_works_109 rfl rfl rfl ?_
              refine vv_getR 113 hk dX12_works_110 rfl la_86 rfl ci_12 rfl fl_12_113 ?_
              refine vv_aload_n (i := 0) 114 hk dX12_works_113 rfl rfl rfl ?_
              refine vv_getI 117 hk he dX12_works_114 rfl la_86 rfl ci_12 rfl fl_12_357 sd_86 ?_
              refine vv_iald 118 hk he dX12_works_117 rfl la_121 sd_121 (fun v12 => ?_)
              refine vv_iand 119 hk dX12_works_118 rfl ?_
              refine vv_goto 143 hk dX12_works_119 rfl ?_
              exact vv_le (ll_s rfl (ll_s rfl (ll_n ll_0))) (hk143 (v11 &&& v12))
            · skip
              refine vv_aload_n (i := 0) 123 hk dX12_works_122 rfl rfl rfl ?_
              refine vv_getR 126 hk dX12_works_123 rfl la_86 rfl ci_12 rfl fl_12_113 ?_
              refine vv_aload_n (i := 0) 127 hk dX12_works_126 rfl rfl rfl ?_
              refine vv_getI 130 hk he dX12_works_127 rfl la_86 rfl ci_12 rfl fl_12_357 sd_86 ?_
              refine vv_iconst 131 hk dX12_works_130 rfl ic_1 ?_
              refine vv_isub 132 hk dX12_works_131 rfl ?_
              refine vv_iald 133 hk he dX12_works_132 rfl la_121 sd_121 (fun v13 => ?_)
              refine vv_aload_n (i := 0) 134 hk dX12_works_133 rfl rfl rfl ?_
              refine vv_getR 137 hk dX12_works_134 rfl la_86 rfl ci_12 rfl fl_12_113 ?_
              refine vv_aload_n (i := 0) 138 hk dX12_works_137 rfl rfl rfl ?_
              refine vv_getI 141 hk he dX12_works_138 rfl la_86 rfl ci_12 rfl fl_12_357 sd_86 ?_
              refine vv_iald 142 hk he dX12_works_141 rfl la_121 sd_121 (fun v14 => ?_)
              refine vv_ior 143 hk dX12_works_142 rfl ?_
              exact vv_le (ll_s rfl (ll_s rfl (ll_n ll_0))) (hk143 (v13 ||| v14))
theorem c_X12_holdsRule (G : GT) (a1 : Int32) (σ : Hp) : CtI G false yX12_holdsRule cX12_holdsRule 2 (some .boolean) 4 [(rf G 86), (.int a1)] (f_X12_holdsRule a1 σ) σ := by
  refine ctZ (L0 := [some (rf G 86), some (.int a1)]) (by decide +kernel) rfl rfl rfl (fun κ hk he hret => ?_)
  have hk : KO G κ cX12_holdsRule RX12 4 := hk
  refine vv_aload_n (i := 0) 1 hk dX12_holdsRule_0 rfl rfl rfl ?_
  refine vv_iconst 2 hk dX12_holdsRule_1 rfl ic_3 ?_
  refine vv_putI 5 hk he dX12_holdsRule_2 rfl la_86 rfl ci_12 rfl fl_12_345 sd_86 rfl rfl (fun σ1 => ?_)
  refine vv_aload_n (i := 0) 6 hk dX12_holdsRule_5 rfl rfl rfl ?_
  refine vv_iconst 7 hk dX12_holdsRule_6 rfl ic_0 ?_
  refine vv_putI 10 hk he dX12_holdsRule_7 rfl la_86 rfl ci_12 rfl fl_12_354 sd_86 rfl rfl (fun σ2 => ?_)
  refine vv_aload_n (i := 0) 11 hk dX12_holdsRule_10 rfl rfl rfl ?_
  refine vv_iconst 12 hk dX12_holdsRule_11 rfl ic_0 ?_
  refine vv_putI 15 hk he dX12_holdsRule_12 rfl la_86 rfl ci_12 rfl fl_12_357 sd_86 rfl rfl (fun σ3 => ?_)
  refine vv_jn (fun t4 => (t4, 206, [some (rf G 86), none], [])) (fun t4 => ?_) (fun k206 hk206 => ?_)
  · skip
    refine vv_aload_n (i := 0) 207 hk dX12_holdsRule_206 rfl rfl rfl ?_
    refine vv_iconst 208 hk dX12_holdsRule_207 rfl ic_2 ?_
    refine vv_invV (st := []) 211 hk he dX12_holdsRule_208 rfl ml_12_366 cf_X12_works la_86 ci_12 (c_X12_works G (2 : Int32) t4) rfl rfl rfl rfl (fun σ5 => ?_)
    refine vv_aload_n (i := 0) 212 hk dX12_holdsRule_211 rfl rfl rfl ?_
    refine vv_getR 215 hk dX12_holdsRule_212 rfl la_86 rfl ci_12 rfl fl_12_113 ?_
    refine vv_iconst 216 hk dX12_holdsRule_215 rfl ic_0 ?_
    refine vv_iald 217 hk he dX12_holdsRule_216 rfl la_121 sd_121 (fun v6 => ?_)
    refine vv_iconst 218 hk dX12_holdsRule_217 rfl ic_1 ?_
    refine vv_jn (fun t7 => (σ5, 226, [some (rf G 86), none], [(.int t7)])) (fun t7 => ?_) (fun k226 hk226 => ?_)
    · skip
      exact hret _ _ _ _ dX12_holdsRule_226
    · skip
      refine vv_icmp_ne 225 221 hk dX12_holdsRule_218 rfl rfl ?_ ?_
      · skip
        refine vv_iconst 222 hk dX12_holdsRule_221 rfl ic_1 ?_
        refine vv_goto 226 hk dX12_holdsRule_222 rfl ?_
        exact vv_le (ll_s rfl (ll_n ll_0)) (hk226 (1 : Int32))
      · skip
        refine vv_iconst 226 hk dX12_holdsRule_225 rfl ic_0 ?_
        exact vv_le (ll_s rfl (ll_n ll_0)) (hk226 (0 : Int32))
  · skip
    refine vv_lp (fun t8 => (t8, 15, [some (rf G 86), some (.int a1)], [])) (fun kl15 hkl15 t8 => ?_) FU σ3
    refine vv_aload_n (i := 0) 16 hk dX12_holdsRule_15 rfl rfl rfl ?_
    refine vv_getI 19 hk he dX12_holdsRule_16 rfl la_86 rfl ci_12 rfl fl_12_345 sd_86 ?_
    refine vv_aload_n (i := 0) 20 hk dX12_holdsRule_19 rfl rfl rfl ?_
    refine vv_getR 23 hk dX12_holdsRule_20 rfl la_86 rfl ci_12 rfl fl_12_101 ?_
    refine vv_iload_n (i := 1) 24 hk dX12_holdsRule_23 rfl rfl rfl ?_
    refine vv_iald 25 hk he dX12_holdsRule_24 rfl la_117 sd_117 (fun v9 => ?_)
    refine vv_icmp_ge 206 28 hk dX12_holdsRule_25 rfl rfl ?_ ?_
    · skip
      exact vv_le (ll_s rfl (ll_n ll_0)) (hk206 t8)
    · skip
      refine vv_jn (fun t10 => (t10, 81, [some (rf G 86), some (.int a1)], [])) (fun t10 => ?_) (fun k81 hk81 => ?_)
      · skip
        refine vv_aload_n (i := 0) 82 hk dX12_holdsRule_81 rfl rfl rfl ?_
        refine vv_getR 85 hk dX12_holdsRule_82 rfl la_86 rfl ci_12 rfl fl_12_113 ?_
        refine vv_aload_n (i := 0) 86 hk dX12_holdsRule_85 rfl rfl rfl ?_
        refine vv_getI 89 hk he dX12_holdsRule_86 rfl la_86 rfl ci_12 rfl fl_12_357 sd_86 ?_
        refine vv_aload_n (i := 0) 90 hk dX12_holdsRule_89 rfl rfl rfl ?_
        refine vv_iload_n (i := 1) 91 hk dX12_holdsRule_90 rfl rfl rfl ?_
        refine vv_invI (st := [(.int (t10.1 86 45)), (rf G 121)]) 94 hk he dX12_holdsRule_91 rfl ml_12_363 cf_X12_compared la_86 ci_12 (c_X12_compared G a1 t10) rfl rfl rfl rfl (fun v11 σ12 => ?_)
        refine vv_iast 95 hk he dX12_holdsRule_94 rfl la_121 sd_121 (fun σ13 => ?_)
        refine vv_aload_n (i := 0) 96 hk dX12_holdsRule_95 rfl rfl rfl ?_
        refine vv_dup 97 hk dX12_holdsRule_96 rfl rfl ?_
        refine vv_getI 100 hk he dX12_holdsRule_97 rfl la_86 rfl ci_12 rfl fl_12_357 sd_86 ?_
        refine vv_iconst 101 hk dX12_holdsRule_100 rfl ic_1 ?_
        refine vv_iadd 102 hk dX12_holdsRule_101 rfl ?_
        refine vv_putI 105 hk he dX12_holdsRule_102 rfl la_86 rfl ci_12 rfl fl_12_357 sd_86 rfl rfl (fun σ14 => ?_)
        refine vv_aload_n (i := 0) 106 hk dX12_holdsRule_105 rfl rfl rfl ?_
        refine vv_iconst 107 hk dX12_holdsRule_106 rfl ic_0 ?_
        refine vv_invV (st := []) 110 hk he dX12_holdsRule_107 rfl ml_12_366 cf_X12_works la_86 ci_12 (c_X12_works G (0 : Int32) σ14) rfl rfl rfl rfl (fun σ15 => ?_)
        refine vv_jn (fun t16 => (t16, 153, [some (rf G 86), some (.int a1)], [])) (fun t16 => ?_) (fun k153 hk153 => ?_)
        · skip
          refine vv_aload_n (i := 0) 154 hk dX12_holdsRule_153 rfl rfl rfl ?_
          refine vv_iload_n (i := 1) 155 hk dX12_holdsRule_154 rfl rfl rfl ?_
          refine vv_invIr (st := []) 158 hk he dX12_holdsRule_155 rfl ml_12_348 cf_X12_signOf la_86 ci_12 (c_X12_signOf G a1 t16) rfl rfl rfl rfl (fun v17 => ?_)
          refine vv_bipush 160 hk dX12_holdsRule_158 rfl bp_38 ?_
          refine vv_jn (fun t18 => (t18, 173, [some (rf G 86), some (.int a1)], [])) (fun t18 => ?_) (fun k173 hk173 => ?_)
          · skip
            refine vv_aload_n (i := 0) 174 hk dX12_holdsRule_173 rfl rfl rfl ?_
            refine vv_iload_n (i := 1) 175 hk dX12_holdsRule_174 rfl rfl rfl ?_
            refine vv_invIr (st := []) 178 hk he dX12_holdsRule_175 rfl ml_12_348 cf_X12_signOf la_86 ci_12 (c_X12_signOf G a1 t18) rfl rfl rfl rfl (fun v19 => ?_)
            refine vv_bipush 180 hk dX12_holdsRule_178 rfl bp_124 ?_
            refine vv_jn (fun t20 => (t20, 193, [some (rf G 86), some (.int a1)], [])) (fun t20 => ?_) (fun k193 hk193 => ?_)
            · skip
              refine vv_aload_n (i := 0) 194 hk dX12_holdsRule_193 rfl rfl rfl ?_
              refine vv_dup 195 hk dX12_holdsRule_194 rfl rfl ?_
              refine vv_getI 198 hk he dX12_holdsRule_195 rfl la_86 rfl ci_12 rfl fl_12_345 sd_86 ?_
              refine vv_iconst 199 hk dX12_holdsRule_198 rfl ic_1 ?_
              refine vv_iadd 200 hk dX12_holdsRule_199 rfl ?_
              refine vv_putI 203 hk he dX12_holdsRule_200 rfl la_86 rfl ci_12 rfl fl_12_345 sd_86 rfl rfl (fun σ21 => ?_)
              refine vv_goto 15 hk dX12_holdsRule_203 rfl ?_
              exact vv_le (ll_s rfl (ll_s rfl ll_0)) (hkl15 σ21)
            · skip
              refine vv_icmp_ne 193 183 hk dX12_holdsRule_180 rfl rfl ?_ ?_
              · skip
                refine vv_aload_n (i := 0) 184 hk dX12_holdsRule_183 rfl rfl rfl ?_
                refine vv_iconst 185 hk dX12_holdsRule_184 rfl ic_2 ?_
                refine vv_invV (st := []) 188 hk he dX12_holdsRule_185 rfl ml_12_366 cf_X12_works la_86 ci_12 (c_X12_works G (2 : Int32) t18) rfl rfl rfl rfl (fun σ22 => ?_)
                refine vv_aload_n (i := 0) 189 hk dX12_holdsRule_188 rfl rfl rfl ?_
                refine vv_iconst 190 hk dX12_holdsRule_189 rfl ic_2 ?_
                refine vv_invV (st := []) 193 hk he dX12_holdsRule_190 rfl ml_12_360 cf_X12_waitsFor la_86 ci_12 (c_X12_waitsFor G (2 : Int32) σ22) rfl rfl rfl rfl (fun σ23 => ?_)
                exact vv_le (ll_s rfl (ll_s rfl ll_0)) (hk193 σ23)
              · skip
                exact vv_le (ll_s rfl (ll_s rfl ll_0)) (hk193 t18)
          · skip
            refine vv_icmp_ne 173 163 hk dX12_holdsRule_160 rfl rfl ?_ ?_
            · skip
              refine vv_aload_n (i := 0) 164 hk dX12_holdsRule_163 rfl rfl rfl ?_
              refine vv_iconst 165 hk dX12_holdsRule_164 rfl ic_1 ?_
              refine vv_invV (st := []) 168 hk he dX12_holdsRule_165 rfl ml_12_366 cf_X12_works la_86 ci_12 (c_X12_works G (1 : Int32) t16) rfl rfl rfl rfl (fun σ24 => ?_)
              refine vv_aload_n (i := 0) 169 hk dX12_holdsRule_168 rfl rfl rfl ?_
              refine vv_iconst 170 hk dX12_holdsRule_169 rfl ic_1 ?_
              refine vv_invV (st := []) 173 hk he dX12_holdsRule_170 rfl ml_12_360 cf_X12_waitsFor la_86 ci_12 (c_X12_waitsFor G (1 : Int32) σ24) rfl rfl rfl rfl (fun σ25 => ?_)
              exact vv_le (ll_s rfl (ll_s rfl ll_0)) (hk173 σ25)
            · skip
              exact vv_le (ll_s rfl (ll_s rfl ll_0)) (hk173 t16)
        · skip
          refine vv_lp (fun t26 => (t26, 110, [some (rf G 86), some (.int a1)], [])) (fun kl110 hkl110 t26 => ?_) FU σ15
          refine vv_aload_n (i := 0) 111 hk dX12_holdsRule_110 rfl rfl rfl ?_
          refine vv_iload_n (i := 1) 112 hk dX12_holdsRule_111 rfl rfl rfl ?_
          refine vv_invIr (st := []) 115 hk he dX12_holdsRule_112 rfl ml_12_348 cf_X12_signOf la_86 ci_12 (c_X12_signOf G a1 t26) rfl rfl rfl rfl (fun v27 => ?_)
          refine vv_bipush 117 hk dX12_holdsRule_115 rfl bp_41 ?_
          refine vv_icmp_ne 153 120 hk dX12_holdsRule_117 rfl rfl ?_ ?_
          · skip
            refine vv_aload_n (i := 0) 121 hk dX12_holdsRule_120 rfl rfl rfl ?_
            refine vv_iconst 122 hk dX12_holdsRule_121 rfl ic_2 ?_
            refine vv_invV (st := []) 125 hk he dX12_holdsRule_122 rfl ml_12_366 cf_X12_works la_86 ci_12 (c_X12_works G (2 : Int32) t26) rfl rfl rfl rfl (fun σ28 => ?_)
            refine vv_aload_n (i := 0) 126 hk dX12_holdsRule_125 rfl rfl rfl ?_
            refine vv_dup 127 hk dX12_holdsRule_126 rfl rfl ?_
            refine vv_getI 130 hk he dX12_holdsRule_127 rfl la_86 rfl ci_12 rfl fl_12_354 sd_86 ?_
            refine vv_iconst 131 hk dX12_holdsRule_130 rfl ic_1 ?_
            refine vv_isub 132 hk dX12_holdsRule_131 rfl ?_
            refine vv_putI 135 hk he dX12_holdsRule_132 rfl la_86 rfl ci_12 rfl fl_12_354 sd_86 rfl rfl (fun σ29 => ?_)
            refine vv_aload_n (i := 0) 136 hk dX12_holdsRule_135 rfl rfl rfl ?_
            refine vv_dup 137 hk dX12_holdsRule_136 rfl rfl ?_
            refine vv_getI 140 hk he dX12_holdsRule_137 rfl la_86 rfl ci_12 rfl fl_12_345 sd_86 ?_
            refine vv_iconst 141 hk dX12_holdsRule_140 rfl ic_1 ?_
            refine vv_iadd 142 hk dX12_holdsRule_141 rfl ?_
            refine vv_putI 145 hk he dX12_holdsRule_142 rfl la_86 rfl ci_12 rfl fl_12_345 sd_86 rfl rfl (fun σ30 => ?_)
            refine vv_aload_n (i := 0) 146 hk dX12_holdsRule_145 rfl rfl rfl ?_
            refine vv_iconst 147 hk dX12_holdsRule_146 rfl ic_0 ?_
            refine vv_invV (st := []) 150 hk he dX12_holdsRule_147 rfl ml_12_366 cf_X12_works la_86 ci_12 (c_X12_works G (0 : Int32) σ30) rfl rfl rfl rfl (fun σ31 => ?_)
            refine vv_goto 110 hk dX12_holdsRule_150 rfl ?_
            exact vv_le (ll_s rfl (ll_s rfl ll_0)) (hkl110 σ31)
          · skip
            exact vv_le (ll_s rfl (ll_s rfl ll_0)) (hk153 t26)
      · skip
        refine vv_lp (fun t32 => (t32, 28, [some (rf G 86), some (.int a1)], [])) (fun kl28 hkl28 t32 => ?_) FU t8
        refine vv_aload_n (i := 0) 29 hk dX12_holdsRule_28 rfl rfl rfl ?_
        refine vv_iload_n (i := 1) 30 hk dX12_holdsRule_29 rfl rfl rfl ?_
        refine vv_invIr (st := []) 33 hk he dX12_holdsRule_30 rfl ml_12_348 cf_X12_signOf la_86 ci_12 (c_X12_signOf G a1 t32) rfl rfl rfl rfl (fun v33 => ?_)
        refine vv_bipush 35 hk dX12_holdsRule_33 rfl bp_33 ?_
        refine vv_jn (fun t34 => (t32, 48, [some (rf G 86), some (.int a1)], [])) (fun t34 => ?_) (fun k48 hk48 => ?_)
        · skip
          refine vv_aload_n (i := 0) 49 hk dX12_holdsRule_48 rfl rfl rfl ?_
          refine vv_aload_n (i := 0) 50 hk dX12_holdsRule_49 rfl rfl rfl ?_
          refine vv_iload_n (i := 1) 51 hk dX12_holdsRule_50 rfl rfl rfl ?_
          refine vv_invIr (st := [(rf G 86)]) 54 hk he dX12_holdsRule_51 rfl ml_12_348 cf_X12_signOf la_86 ci_12 (c_X12_signOf G a1 t32) rfl rfl rfl rfl (fun v35 => ?_)
          refine vv_bipush 56 hk dX12_holdsRule_54 rfl bp_33 ?_
          refine vv_jn (fun t36 => (t32, 65, [some (rf G 86), some (.int a1)], [(.int t36), (rf G 86)])) (fun t36 => ?_) (fun k65 hk65 => ?_)
          · skip
            refine vv_invV (st := []) 68 hk he dX12_holdsRule_65 rfl ml_12_360 cf_X12_waitsFor la_86 ci_12 (c_X12_waitsFor G t36 t32) rfl rfl rfl rfl (fun σ37 => ?_)
            refine vv_aload_n (i := 0) 69 hk dX12_holdsRule_68 rfl rfl rfl ?_
            refine vv_dup 70 hk dX12_holdsRule_69 rfl rfl ?_
            refine vv_getI 73 hk he dX12_holdsRule_70 rfl la_86 rfl ci_12 rfl fl_12_345 sd_86 ?_
            refine vv_iconst 74 hk dX12_holdsRule_73 rfl ic_1 ?_
            refine vv_iadd 75 hk dX12_holdsRule_74 rfl ?_
            refine vv_putI 78 hk he dX12_holdsRule_75 rfl la_86 rfl ci_12 rfl fl_12_345 sd_86 rfl rfl (fun σ38 => ?_)
            refine vv_goto 28 hk dX12_holdsRule_78 rfl ?_
            exact vv_le (ll_s rfl (ll_s rfl ll_0)) (hkl28 σ38)
          · skip
            refine vv_icmp_ne 63 59 hk dX12_holdsRule_56 rfl rfl ?_ ?_
            · skip
              refine vv_iconst 60 hk dX12_holdsRule_59 rfl ic_0 ?_
              refine vv_goto 65 hk dX12_holdsRule_60 rfl ?_
              exact vv_le (ll_s rfl (ll_s rfl ll_0)) (hk65 (0 : Int32))
            · skip
              refine vv_bipush 65 hk dX12_holdsRule_63 rfl bp_9 ?_
              exact vv_le (ll_s rfl (ll_s rfl ll_0)) (hk65 (9 : Int32))
        · skip
          refine vv_icmp_eq 48 38 hk dX12_holdsRule_35 rfl rfl ?_ ?_
          · skip
            exact vv_le (ll_s rfl (ll_s rfl ll_0)) (hk48 ())
          · skip
            refine vv_aload_n (i := 0) 39 hk dX12_holdsRule_38 rfl rfl rfl ?_
            refine vv_iload_n (i := 1) 40 hk dX12_holdsRule_39 rfl rfl rfl ?_
            refine vv_invIr (st := []) 43 hk he dX12_holdsRule_40 rfl ml_12_348 cf_X12_signOf la_86 ci_12 (c_X12_signOf G a1 t32) rfl rfl rfl rfl (fun v39 => ?_)
            refine vv_bipush 45 hk dX12_holdsRule_43 rfl bp_40 ?_
            refine vv_icmp_ne 81 48 hk dX12_holdsRule_45 rfl rfl ?_ ?_
            · skip
              exact vv_le (ll_s rfl (ll_s rfl ll_0)) (hk48 ())
            · skip
              exact vv_le (ll_s rfl (ll_s rfl ll_0)) (hk81 t32)
theorem c_X12_forbidden (G : GT) (a1 : Int32) (a2 : Int32) (σ : Hp) : CtI G false yX12_forbidden cX12_forbidden 4 (some .int) 5 [(rf G 86), (.int a1), (.int a2)] (f_X12_forbidden a1 a2 σ) σ := by
  refine ctI (L0 := [some (rf G 86), some (.int a1), some (.int a2), none]) (by decide +kernel) rfl rfl rfl (fun κ hk he hret => ?_)
  have hk : KO G κ cX12_forbidden RX12 5 := hk
  refine vv_iconst 1 hk dX12_forbidden_0 rfl ic_0 ?_
  refine vv_istore_n (i := 3) 2 [some (rf G 86), some (.int a1), some (.int a2), some (.int (0 : Int32))] hk dX12_forbidden_1 rfl rfl rfl rfl ?_
  refine vv_lp (fun t1 => (t1.2, 2, [some (rf G 86), some (.int a1), some (.int a2), some (.int t1.1)], [])) (fun kl2 hkl2 t1 => ?_) FU ((0 : Int32), σ)
  refine vv_iload_n (i := 3) 3 hk dX12_forbidden_2 rfl rfl rfl ?_
  refine vv_aload_n (i := 0) 4 hk dX12_forbidden_3 rfl rfl rfl ?_
  refine vv_getI 7 hk he dX12_forbidden_4 rfl la_86 rfl ci_12 rfl fl_12_336 sd_86 ?_
  refine vv_icmp_ge 79 10 hk dX12_forbidden_7 rfl rfl ?_ ?_
  · skip
    refine vv_bipush 81 hk dX12_forbidden_79 rfl bp_m9 ?_
    exact hret _ _ _ _ dX12_forbidden_81
  · skip
    refine vv_aload_n (i := 0) 11 hk dX12_forbidden_10 rfl rfl rfl ?_
    refine vv_getR 14 hk dX12_forbidden_11 rfl la_86 rfl ci_12 rfl fl_12_107 ?_
    refine vv_iload_n (i := 3) 15 hk dX12_forbidden_14 rfl rfl rfl ?_
    refine vv_zald 16 hk he dX12_forbidden_15 rfl la_119 sd_119 (fun v2 => ?_)
    refine vv_jn (fun t3 => (t3, 73, [some (rf G 86), some (.int a1), some (.int a2), some (.int t1.1)], [])) (fun t3 => ?_) (fun k73 hk73 => ?_)
    · skip
      refine vv_iinc 76 (fun x4 => [some (rf G 86), some (.int a1), some (.int a2), some (.int x4)]) hk dX12_forbidden_73 rfl rfl ic_1 (fun _ => rfl) (fun x4 => ?_)
      refine vv_goto 2 hk dX12_forbidden_76 rfl ?_
      exact vv_le (ll_s rfl (ll_s rfl (ll_s rfl (ll_s rfl ll_0)))) (hkl2 (x4, t3))
    · skip
      refine vv_if_ne 73 19 hk dX12_forbidden_16 rfl rfl ?_ ?_
      · skip
        refine vv_aload_n (i := 0) 20 hk dX12_forbidden_19 rfl rfl rfl ?_
        refine vv_getR 23 hk dX12_forbidden_20 rfl la_86 rfl ci_12 rfl fl_12_98 ?_
        refine vv_bipush 25 hk dX12_forbidden_23 rfl bp_40 ?_
        refine vv_iload_n (i := 3) 26 hk dX12_forbidden_25 rfl rfl rfl ?_
        refine vv_imul 27 hk dX12_forbidden_26 rfl ?_
        refine vv_iald 28 hk he dX12_forbidden_27 rfl la_116 sd_116 (fun v5 => ?_)
        refine vv_iload_n (i := 2) 29 hk dX12_forbidden_28 rfl rfl rfl ?_
        refine vv_jn (fun t6 => (t1.2, 39, [some (rf G 86), some (.int a1), some (.int a2), some (.int t1.1)], [(.int t6), (.int v5)])) (fun t6 => ?_) (fun k39 hk39 => ?_)
        · skip
          refine vv_icmp_ne 73 42 hk dX12_forbidden_39 rfl rfl ?_ ?_
          · skip
            refine vv_aload_n (i := 0) 43 hk dX12_forbidden_42 rfl rfl rfl ?_
            refine vv_getR 46 hk dX12_forbidden_43 rfl la_86 rfl ci_12 rfl fl_12_98 ?_
            refine vv_bipush 48 hk dX12_forbidden_46 rfl bp_40 ?_
            refine vv_iload_n (i := 3) 49 hk dX12_forbidden_48 rfl rfl rfl ?_
            refine vv_imul 50 hk dX12_forbidden_49 rfl ?_
            refine vv_iconst 51 hk dX12_forbidden_50 rfl ic_1 ?_
            refine vv_iadd 52 hk dX12_forbidden_51 rfl ?_
            refine vv_iald 53 hk he dX12_forbidden_52 rfl la_116 sd_116 (fun v7 => ?_)
            refine vv_bipush 55 hk dX12_forbidden_53 rfl bp_48 ?_
            refine vv_iload_n (i := 1) 56 hk dX12_forbidden_55 rfl rfl rfl ?_
            refine vv_iadd 57 hk dX12_forbidden_56 rfl ?_
            refine vv_icmp_eq 63 60 hk dX12_forbidden_57 rfl rfl ?_ ?_
            · skip
              refine vv_aload_n (i := 0) 64 hk dX12_forbidden_63 rfl rfl rfl ?_
              refine vv_iload_n (i := 3) 65 hk dX12_forbidden_64 rfl rfl rfl ?_
              refine vv_invI (st := []) 68 hk he dX12_forbidden_65 rfl ml_12_369 cf_X12_holdsRule la_86 ci_12 (c_X12_holdsRule G t1.1 t1.2) rfl rfl rfl rfl (fun v8 σ9 => ?_)
              refine vv_if_eq 73 71 hk dX12_forbidden_68 rfl rfl ?_ ?_
              · skip
                exact vv_le (ll_s rfl (ll_s rfl (ll_s rfl (ll_s rfl ll_0)))) (hk73 σ9)
              · skip
                refine vv_iload_n (i := 3) 72 hk dX12_forbidden_71 rfl rfl rfl ?_
                exact hret _ _ _ _ dX12_forbidden_72
            · skip
              refine vv_goto 73 hk dX12_forbidden_60 rfl ?_
              exact vv_le (ll_s rfl (ll_s rfl (ll_s rfl (ll_s rfl ll_0)))) (hk73 t1.2)
          · skip
            exact vv_le (ll_s rfl (ll_s rfl (ll_s rfl (ll_s rfl ll_0)))) (hk73 t1.2)
        · skip
          refine vv_if_eq 37 32 hk dX12_forbidden_29 rfl rfl ?_ ?_
          · skip
            refine vv_bipush 39 hk dX12_forbidden_37 rfl bp_86 ?_
            exact vv_le (ll_s rfl (ll_s rfl (ll_s rfl (ll_s rfl ll_0)))) (hk39 (86 : Int32))
          · skip
            refine vv_bipush 34 hk dX12_forbidden_32 rfl bp_80 ?_
            refine vv_goto 39 hk dX12_forbidden_34 rfl ?_
            exact vv_le (ll_s rfl (ll_s rfl (ll_s rfl (ll_s rfl ll_0)))) (hk39 (80 : Int32))
      · skip
        exact vv_le (ll_s rfl (ll_s rfl (ll_s rfl (ll_s rfl ll_0)))) (hk73 t1.2)
theorem c_X12_mayStart (G : GT) (a1 : Int32) (σ : Hp) : CtI G false yX12_mayStart cX12_mayStart 2 (some .boolean) 6 [(rf G 86), (.int a1)] (f_X12_mayStart a1 σ) σ := by
  refine ctZ (L0 := [some (rf G 86), some (.int a1)]) (by decide +kernel) rfl rfl rfl (fun κ hk he hret => ?_)
  have hk : KO G κ cX12_mayStart RX12 6 := hk
  refine vv_aload_n (i := 0) 1 hk dX12_mayStart_0 rfl rfl rfl ?_
  refine vv_getR 4 hk dX12_mayStart_1 rfl la_86 rfl ci_12 rfl fl_12_65 ?_
  refine vv_iload_n (i := 1) 5 hk dX12_mayStart_4 rfl rfl rfl ?_
  refine vv_zald 6 hk he dX12_mayStart_5 rfl la_105 sd_105 (fun v1 => ?_)
  refine vv_jn (fun t2 => (t2.2, 32, [some (rf G 86), none], [(.int t2.1)])) (fun t2 => ?_) (fun k32 hk32 => ?_)
  · skip
    exact hret _ _ _ _ dX12_mayStart_32
  · skip
    refine vv_jn (fun t3 => (t3, 31, [some (rf G 86), none], [])) (fun t3 => ?_) (fun k31 hk31 => ?_)
    · skip
      refine vv_iconst 32 hk dX12_mayStart_31 rfl ic_0 ?_
      exact vv_le (ll_s rfl (ll_n ll_0)) (hk32 ((0 : Int32), t3))
    · skip
      refine vv_if_ne 31 9 hk dX12_mayStart_6 rfl rfl ?_ ?_
      · skip
        refine vv_aload_n (i := 0) 10 hk dX12_mayStart_9 rfl rfl rfl ?_
        refine vv_getR 13 hk dX12_mayStart_10 rfl la_86 rfl ci_12 rfl fl_12_68 ?_
        refine vv_iload_n (i := 1) 14 hk dX12_mayStart_13 rfl rfl rfl ?_
        refine vv_zald 15 hk he dX12_mayStart_14 rfl la_106 sd_106 (fun v4 => ?_)
        refine vv_if_ne 31 18 hk dX12_mayStart_15 rfl rfl ?_ ?_
        · skip
          refine vv_aload_n (i := 0) 19 hk dX12_mayStart_18 rfl rfl rfl ?_
          refine vv_iload_n (i := 1) 20 hk dX12_mayStart_19 rfl rfl rfl ?_
          refine vv_iconst 21 hk dX12_mayStart_20 rfl ic_1 ?_
          refine vv_invI (st := []) 24 hk he dX12_mayStart_21 rfl ml_12_372 cf_X12_forbidden la_86 ci_12 (c_X12_forbidden G a1 (1 : Int32) σ) rfl rfl rfl rfl (fun v5 σ6 => ?_)
          refine vv_if_ge 31 27 hk dX12_mayStart_24 rfl rfl ?_ ?_
          · skip
            exact vv_le (ll_s rfl (ll_n ll_0)) (hk31 σ6)
          · skip
            refine vv_iconst 28 hk dX12_mayStart_27 rfl ic_1 ?_
            refine vv_goto 32 hk dX12_mayStart_28 rfl ?_
            exact vv_le (ll_s rfl (ll_n ll_0)) (hk32 ((1 : Int32), σ6))
        · skip
          exact vv_le (ll_s rfl (ll_n ll_0)) (hk31 σ)
      · skip
        exact vv_le (ll_s rfl (ll_n ll_0)) (hk31 σ)
theorem c_X12_findOrder (G : GT) (a1 : Int32) (σ : Hp) : CtI G false yX12_findOrder cX12_findOrder 6 (some .boolean) 7 [(rf G 86), (.int a1)] (f_X12_findOrder a1 σ) σ := by
  refine ctZ (L0 := [some (rf G 86), some (.int a1), none, none, none, none]) (by decide +kernel) rfl rfl rfl (fun κ hk he hret => ?_)
  have hk : KO G κ cX12_findOrder RX12 7 := hk
  refine vv_iload_n (i := 1) 1 hk dX12_findOrder_0 rfl rfl rfl ?_
  refine vv_staIr (st := []) 4 hk he dX12_findOrder_1 rfl ml_12_391 sf_X12_bits (c_X12_bits G a1 σ) rfl rfl rfl rfl (fun v1 => ?_)
  refine vv_istore_n (i := 2) 5 [some (rf G 86), some (.int a1), some (.int v1), none, none, none] hk dX12_findOrder_4 rfl rfl rfl rfl ?_
  refine vv_iconst 6 hk dX12_findOrder_5 rfl ic_0 ?_
  refine vv_istore_n (i := 3) 7 [some (rf G 86), some (.int a1), some (.int v1), some (.int (0 : Int32)), none, none] hk dX12_findOrder_6 rfl rfl rfl rfl ?_
  refine vv_aload_n (i := 0) 8 hk dX12_findOrder_7 rfl rfl rfl ?_
  refine vv_getR 11 hk dX12_findOrder_8 rfl la_86 rfl ci_12 rfl fl_12_128 ?_
  refine vv_iconst 12 hk dX12_findOrder_11 rfl ic_0 ?_
  refine vv_iconst 13 hk dX12_findOrder_12 rfl ic_m1 ?_
  refine vv_iast 14 hk he dX12_findOrder_13 rfl la_126 sd_126 (fun σ2 => ?_)
  refine vv_iconst 15 hk dX12_findOrder_14 rfl ic_0 ?_
  refine vv_istore 17 [some (rf G 86), some (.int a1), some (.int v1), some (.int (0 : Int32)), some (.int (0 : Int32)), none] hk dX12_findOrder_15 rfl rfl rfl ?_
  refine vv_jn (fun t3 => (t3.2, 173, [some (rf G 86), none, some (.int v1), none, some (.int t3.1), none], [])) (fun t3 => ?_) (fun k173 hk173 => ?_)
  · skip
    refine vv_iconst 174 hk dX12_findOrder_173 rfl ic_0 ?_
    refine vv_istore 176 [some (rf G 86), none, some (.int v1), none, some (.int t3.1), some (.int (0 : Int32))] hk dX12_findOrder_174 rfl rfl rfl ?_
    refine vv_lp (fun t4 => (t4.2, 176, [some (rf G 86), none, some (.int v1), none, some (.int t3.1), some (.int t4.1)], [])) (fun kl176 hkl176 t4 => ?_) FU ((0 : Int32), t3.2)
    refine vv_iload 178 hk dX12_findOrder_176 rfl rfl ?_
    refine vv_iload_n (i := 2) 179 hk dX12_findOrder_178 rfl rfl rfl ?_
    refine vv_icmp_ge 220 182 hk dX12_findOrder_179 rfl rfl ?_ ?_
    · skip
      refine vv_iload 222 hk dX12_findOrder_220 rfl rfl ?_
      exact hret _ _ _ _ dX12_findOrder_222
    · skip
      refine vv_iload 184 hk dX12_findOrder_182 rfl rfl ?_
      refine vv_if_eq 220 187 hk dX12_findOrder_184 rfl rfl ?_ ?_
      · skip
        refine vv_iload 222 hk dX12_findOrder_220 rfl rfl ?_
        exact hret _ _ _ _ dX12_findOrder_222
      · skip
        refine vv_aload_n (i := 0) 188 hk dX12_findOrder_187 rfl rfl rfl ?_
        refine vv_getR 191 hk dX12_findOrder_188 rfl la_86 rfl ci_12 rfl fl_12_131 ?_
        refine vv_iload 193 hk dX12_findOrder_191 rfl rfl ?_
        refine vv_aload_n (i := 0) 194 hk dX12_findOrder_193 rfl rfl rfl ?_
        refine vv_getR 197 hk dX12_findOrder_194 rfl la_86 rfl ci_12 rfl fl_12_128 ?_
        refine vv_iload 199 hk dX12_findOrder_197 rfl rfl ?_
        refine vv_iald 200 hk he dX12_findOrder_199 rfl la_126 sd_126 (fun v5 => ?_)
        refine vv_iast 201 hk he dX12_findOrder_200 rfl la_127 sd_127 (fun σ6 => ?_)
        refine vv_aload_n (i := 0) 202 hk dX12_findOrder_201 rfl rfl rfl ?_
        refine vv_getR 205 hk dX12_findOrder_202 rfl la_86 rfl ci_12 rfl fl_12_65 ?_
        refine vv_aload_n (i := 0) 206 hk dX12_findOrder_205 rfl rfl rfl ?_
        refine vv_getR 209 hk dX12_findOrder_206 rfl la_86 rfl ci_12 rfl fl_12_128 ?_
        refine vv_iload 211 hk dX12_findOrder_209 rfl rfl ?_
        refine vv_iald 212 hk he dX12_findOrder_211 rfl la_126 sd_126 (fun v7 => ?_)
        refine vv_iconst 213 hk dX12_findOrder_212 rfl ic_0 ?_
        refine vv_zast 214 hk he dX12_findOrder_213 rfl la_105 sd_105 (fun σ8 => ?_)
        refine vv_iinc 217 (fun x9 => [some (rf G 86), none, some (.int v1), none, some (.int t3.1), some (.int x9)]) hk dX12_findOrder_214 rfl rfl ic_1 (fun _ => rfl) (fun x9 => ?_)
        refine vv_goto 176 hk dX12_findOrder_217 rfl ?_
        exact vv_le (ll_s rfl (ll_n (ll_s rfl (ll_n (ll_s rfl (ll_s rfl ll_0)))))) (hkl176 (x9, σ8))
  · skip
    refine vv_lp (fun t10 => (t10.2.2, 17, [some (rf G 86), some (.int a1), some (.int v1), some (.int t10.1), some (.int t10.2.1), none], [])) (fun kl17 hkl17 t10 => ?_) FU ((0 : Int32), (0 : Int32), σ2)
    refine vv_iload_n (i := 3) 18 hk dX12_findOrder_17 rfl rfl rfl ?_
    refine vv_if_lt 173 21 hk dX12_findOrder_18 rfl rfl ?_ ?_
    · skip
      exact vv_le (ll_s rfl (ll_n (ll_s rfl (ll_n (ll_s rfl (ll_n ll_0)))))) (hk173 (t10.2.1, t10.2.2))
    · skip
      refine vv_iload 23 hk dX12_findOrder_21 rfl rfl ?_
      refine vv_if_ne 173 26 hk dX12_findOrder_23 rfl rfl ?_ ?_
      · skip
        refine vv_aload_n (i := 0) 27 hk dX12_findOrder_26 rfl rfl rfl ?_
        refine vv_getR 30 hk dX12_findOrder_27 rfl la_86 rfl ci_12 rfl fl_12_128 ?_
        refine vv_iload_n (i := 3) 31 hk dX12_findOrder_30 rfl rfl rfl ?_
        refine vv_iald 32 hk he dX12_findOrder_31 rfl la_126 sd_126 (fun v11 => ?_)
        refine vv_jn (fun t12 => (t12, 47, [some (rf G 86), some (.int a1), some (.int v1), some (.int t10.1), some (.int t10.2.1), none], [])) (fun t12 => ?_) (fun k47 hk47 => ?_)
        · skip
          refine vv_aload_n (i := 0) 48 hk dX12_findOrder_47 rfl rfl rfl ?_
          refine vv_getR 51 hk dX12_findOrder_48 rfl la_86 rfl ci_12 rfl fl_12_128 ?_
          refine vv_iload_n (i := 3) 52 hk dX12_findOrder_51 rfl rfl rfl ?_
          refine vv_dup2 53 hk dX12_findOrder_52 rfl rfl rfl ?_
          refine vv_iald 54 hk he dX12_findOrder_53 rfl la_126 sd_126 (fun v13 => ?_)
          refine vv_iconst 55 hk dX12_findOrder_54 rfl ic_1 ?_
          refine vv_iadd 56 hk dX12_findOrder_55 rfl ?_
          refine vv_iast 57 hk he dX12_findOrder_56 rfl la_126 sd_126 (fun σ14 => ?_)
          refine vv_jn (fun t15 => (t15, 109, [some (rf G 86), some (.int a1), some (.int v1), some (.int t10.1), some (.int t10.2.1), none], [])) (fun t15 => ?_) (fun k109 hk109 => ?_)
          · skip
            refine vv_aload_n (i := 0) 110 hk dX12_findOrder_109 rfl rfl rfl ?_
            refine vv_getR 113 hk dX12_findOrder_110 rfl la_86 rfl ci_12 rfl fl_12_128 ?_
            refine vv_iload_n (i := 3) 114 hk dX12_findOrder_113 rfl rfl rfl ?_
            refine vv_iald 115 hk he dX12_findOrder_114 rfl la_126 sd_126 (fun v16 => ?_)
            refine vv_aload_n (i := 0) 116 hk dX12_findOrder_115 rfl rfl rfl ?_
            refine vv_getI 119 hk he dX12_findOrder_116 rfl la_86 rfl ci_12 rfl fl_12_217 sd_86 ?_
            refine vv_icmp_lt 135 122 hk dX12_findOrder_119 rfl rfl ?_ ?_
            · skip
              refine vv_aload_n (i := 0) 136 hk dX12_findOrder_135 rfl rfl rfl ?_
              refine vv_getR 139 hk dX12_findOrder_136 rfl la_86 rfl ci_12 rfl fl_12_65 ?_
              refine vv_aload_n (i := 0) 140 hk dX12_findOrder_139 rfl rfl rfl ?_
              refine vv_getR 143 hk dX12_findOrder_140 rfl la_86 rfl ci_12 rfl fl_12_128 ?_
              refine vv_iload_n (i := 3) 144 hk dX12_findOrder_143 rfl rfl rfl ?_
              refine vv_iald 145 hk he dX12_findOrder_144 rfl la_126 sd_126 (fun v17 => ?_)
              refine vv_iconst 146 hk dX12_findOrder_145 rfl ic_1 ?_
              refine vv_zast 147 hk he dX12_findOrder_146 rfl la_105 sd_105 (fun σ18 => ?_)
              refine vv_iload_n (i := 3) 148 hk dX12_findOrder_147 rfl rfl rfl ?_
              refine vv_iload_n (i := 2) 149 hk dX12_findOrder_148 rfl rfl rfl ?_
              refine vv_iconst 150 hk dX12_findOrder_149 rfl ic_1 ?_
              refine vv_isub 151 hk dX12_findOrder_150 rfl ?_
              refine vv_icmp_ne 160 154 hk dX12_findOrder_151 rfl rfl ?_ ?_
              · skip
                refine vv_iconst 155 hk dX12_findOrder_154 rfl ic_1 ?_
                refine vv_istore 157 [some (rf G 86), some (.int a1), some (.int v1), some (.int t10.1), some (.int (1 : Int32)), none] hk dX12_findOrder_155 rfl rfl rfl ?_
                refine vv_goto 17 hk dX12_findOrder_157 rfl ?_
                exact vv_le (ll_s rfl (ll_s rfl (ll_s rfl (ll_s rfl (ll_s rfl (ll_n ll_0)))))) (hkl17 (t10.1, (1 : Int32), σ18))
              · skip
                refine vv_iinc 163 (fun x19 => [some (rf G 86), some (.int a1), some (.int v1), some (.int x19), some (.int t10.2.1), none]) hk dX12_findOrder_160 rfl rfl ic_1 (fun _ => rfl) (fun x19 => ?_)
                refine vv_aload_n (i := 0) 164 hk dX12_findOrder_163 rfl rfl rfl ?_
                refine vv_getR 167 hk dX12_findOrder_164 rfl la_86 rfl ci_12 rfl fl_12_128 ?_
                refine vv_iload_n (i := 3) 168 hk dX12_findOrder_167 rfl rfl rfl ?_
                refine vv_iconst 169 hk dX12_findOrder_168 rfl ic_m1 ?_
                refine vv_iast 170 hk he dX12_findOrder_169 rfl la_126 sd_126 (fun σ20 => ?_)
                refine vv_goto 17 hk dX12_findOrder_170 rfl ?_
                exact vv_le (ll_s rfl (ll_s rfl (ll_s rfl (ll_s rfl (ll_s rfl (ll_n ll_0)))))) (hkl17 (x19, t10.2.1, σ20))
            · skip
              refine vv_aload_n (i := 0) 123 hk dX12_findOrder_122 rfl rfl rfl ?_
              refine vv_getR 126 hk dX12_findOrder_123 rfl la_86 rfl ci_12 rfl fl_12_128 ?_
              refine vv_iload_n (i := 3) 127 hk dX12_findOrder_126 rfl rfl rfl ?_
              refine vv_iconst 128 hk dX12_findOrder_127 rfl ic_m1 ?_
              refine vv_iast 129 hk he dX12_findOrder_128 rfl la_126 sd_126 (fun σ21 => ?_)
              refine vv_iinc 132 (fun x22 => [some (rf G 86), some (.int a1), some (.int v1), some (.int x22), some (.int t10.2.1), none]) hk dX12_findOrder_129 rfl rfl ic_m1 (fun _ => rfl) (fun x22 => ?_)
              refine vv_goto 17 hk dX12_findOrder_132 rfl ?_
              exact vv_le (ll_s rfl (ll_s rfl (ll_s rfl (ll_s rfl (ll_s rfl (ll_n ll_0)))))) (hkl17 (x22, t10.2.1, σ21))
          · skip
            refine vv_lp (fun t23 => (t23, 57, [some (rf G 86), some (.int a1), some (.int v1), some (.int t10.1), some (.int t10.2.1), none], [])) (fun kl57 hkl57 t23 => ?_) FU σ14
            refine vv_aload_n (i := 0) 58 hk dX12_findOrder_57 rfl rfl rfl ?_
            refine vv_getR 61 hk dX12_findOrder_58 rfl la_86 rfl ci_12 rfl fl_12_128 ?_
            refine vv_iload_n (i := 3) 62 hk dX12_findOrder_61 rfl rfl rfl ?_
            refine vv_iald 63 hk he dX12_findOrder_62 rfl la_126 sd_126 (fun v24 => ?_)
            refine vv_aload_n (i := 0) 64 hk dX12_findOrder_63 rfl rfl rfl ?_
            refine vv_getI 67 hk he dX12_findOrder_64 rfl la_86 rfl ci_12 rfl fl_12_217 sd_86 ?_
            refine vv_icmp_ge 109 70 hk dX12_findOrder_67 rfl rfl ?_ ?_
            · skip
              exact vv_le (ll_s rfl (ll_s rfl (ll_s rfl (ll_s rfl (ll_s rfl (ll_n ll_0)))))) (hk109 t23)
            · skip
              refine vv_iload_n (i := 1) 71 hk dX12_findOrder_70 rfl rfl rfl ?_
              refine vv_aload_n (i := 0) 72 hk dX12_findOrder_71 rfl rfl rfl ?_
              refine vv_getR 75 hk dX12_findOrder_72 rfl la_86 rfl ci_12 rfl fl_12_128 ?_
              refine vv_iload_n (i := 3) 76 hk dX12_findOrder_75 rfl rfl rfl ?_
              refine vv_iald 77 hk he dX12_findOrder_76 rfl la_126 sd_126 (fun v25 => ?_)
              refine vv_ishr 78 hk dX12_findOrder_77 rfl ?_
              refine vv_iconst 79 hk dX12_findOrder_78 rfl ic_1 ?_
              refine vv_iand 80 hk dX12_findOrder_79 rfl ?_
              refine vv_jn (fun t26 => (t26, 96, [some (rf G 86), some (.int a1), some (.int v1), some (.int t10.1), some (.int t10.2.1), none], [])) (fun t26 => ?_) (fun k96 hk96 => ?_)
              · skip
                refine vv_aload_n (i := 0) 97 hk dX12_findOrder_96 rfl rfl rfl ?_
                refine vv_getR 100 hk dX12_findOrder_97 rfl la_86 rfl ci_12 rfl fl_12_128 ?_
                refine vv_iload_n (i := 3) 101 hk dX12_findOrder_100 rfl rfl rfl ?_
                refine vv_dup2 102 hk dX12_findOrder_101 rfl rfl rfl ?_
                refine vv_iald 103 hk he dX12_findOrder_102 rfl la_126 sd_126 (fun v27 => ?_)
                refine vv_iconst 104 hk dX12_findOrder_103 rfl ic_1 ?_
                refine vv_iadd 105 hk dX12_findOrder_104 rfl ?_
                refine vv_iast 106 hk he dX12_findOrder_105 rfl la_126 sd_126 (fun σ28 => ?_)
                refine vv_goto 57 hk dX12_findOrder_106 rfl ?_
                exact vv_le (ll_s rfl (ll_s rfl (ll_s rfl (ll_s rfl (ll_s rfl (ll_n ll_0)))))) (hkl57 σ28)
              · skip
                refine vv_if_eq 96 83 hk dX12_findOrder_80 rfl rfl ?_ ?_
                · skip
                  exact vv_le (ll_s rfl (ll_s rfl (ll_s rfl (ll_s rfl (ll_s rfl (ll_n ll_0)))))) (hk96 t23)
                · skip
                  refine vv_aload_n (i := 0) 84 hk dX12_findOrder_83 rfl rfl rfl ?_
                  refine vv_aload_n (i := 0) 85 hk dX12_findOrder_84 rfl rfl rfl ?_
                  refine vv_getR 88 hk dX12_findOrder_85 rfl la_86 rfl ci_12 rfl fl_12_128 ?_
                  refine vv_iload_n (i := 3) 89 hk dX12_findOrder_88 rfl rfl rfl ?_
                  refine vv_iald 90 hk he dX12_findOrder_89 rfl la_126 sd_126 (fun v29 => ?_)
                  refine vv_invI (st := []) 93 hk he dX12_findOrder_90 rfl ml_12_394 cf_X12_mayStart la_86 ci_12 (c_X12_mayStart G v29 t23) rfl rfl rfl rfl (fun v30 σ31 => ?_)
                  refine vv_if_ne 109 96 hk dX12_findOrder_93 rfl rfl ?_ ?_
                  · skip
                    exact vv_le (ll_s rfl (ll_s rfl (ll_s rfl (ll_s rfl (ll_s rfl (ll_n ll_0)))))) (hk96 σ31)
                  · skip
                    exact vv_le (ll_s rfl (ll_s rfl (ll_s rfl (ll_s rfl (ll_s rfl (ll_n ll_0)))))) (hk109 σ31)
        · skip
          refine vv_if_lt 47 35 hk dX12_findOrder_32 rfl rfl ?_ ?_
          · skip
            exact vv_le (ll_s rfl (ll_s rfl (ll_s rfl (ll_s rfl (ll_s rfl (ll_n ll_0)))))) (hk47 t10.2.2)
          · skip
            refine vv_aload_n (i := 0) 36 hk dX12_findOrder_35 rfl rfl rfl ?_
            refine vv_getR 39 hk dX12_findOrder_36 rfl la_86 rfl ci_12 rfl fl_12_65 ?_
            refine vv_aload_n (i := 0) 40 hk dX12_findOrder_39 rfl rfl rfl ?_
            refine vv_getR 43 hk dX12_findOrder_40 rfl la_86 rfl ci_12 rfl fl_12_128 ?_
            refine vv_iload_n (i := 3) 44 hk dX12_findOrder_43 rfl rfl rfl ?_
            refine vv_iald 45 hk he dX12_findOrder_44 rfl la_126 sd_126 (fun v32 => ?_)
            refine vv_iconst 46 hk dX12_findOrder_45 rfl ic_0 ?_
            refine vv_zast 47 hk he dX12_findOrder_46 rfl la_105 sd_105 (fun σ33 => ?_)
            exact vv_le (ll_s rfl (ll_s rfl (ll_s rfl (ll_s rfl (ll_s rfl (ll_n ll_0)))))) (hk47 σ33)
      · skip
        exact vv_le (ll_s rfl (ll_n (ll_s rfl (ll_n (ll_s rfl (ll_n ll_0)))))) (hk173 (t10.2.1, t10.2.2))
theorem c_X12_findParts (G : GT) (σ : Hp) : CtV G false yX12_findParts cX12_findParts 6 none 0 [(rf G 86)] (f_X12_findParts σ) σ := by
  refine ctV (L0 := [some (rf G 86), none, none, none, none, none]) (by decide +kernel) rfl rfl rfl (fun κ hk he hret => ?_)
  have hk : KO G κ cX12_findParts RX12 0 := hk
  refine vv_iconst 1 hk dX12_findParts_0 rfl ic_0 ?_
  refine vv_istore_n (i := 1) 2 [some (rf G 86), some (.int (0 : Int32)), none, none, none, none] hk dX12_findParts_1 rfl rfl rfl rfl ?_
  refine vv_jn (fun t1 => (t1, 23, [some (rf G 86), none, none, none, none, none], [])) (fun t1 => ?_) (fun k23 hk23 => ?_)
  · skip
    refine vv_iconst 24 hk dX12_findParts_23 rfl ic_0 ?_
    refine vv_istore_n (i := 1) 25 [some (rf G 86), some (.int (0 : Int32)), none, none, none, none] hk dX12_findParts_24 rfl rfl rfl rfl ?_
    refine vv_lp (fun t2 => (t2.2, 25, [some (rf G 86), some (.int t2.1), none, none, none, none], [])) (fun kl25 hkl25 t2 => ?_) FU ((0 : Int32), t1)
    refine vv_iload_n (i := 1) 26 hk dX12_findParts_25 rfl rfl rfl ?_
    refine vv_iconst 27 hk dX12_findParts_26 rfl ic_5 ?_
    refine vv_icmp_ge 130 30 hk dX12_findParts_27 rfl rfl ?_ ?_
    · skip
      exact hret _ _ _ dX12_findParts_130
    · skip
      refine vv_iconst 31 hk dX12_findParts_30 rfl ic_0 ?_
      refine vv_istore_n (i := 2) 32 [some (rf G 86), some (.int t2.1), some (.int (0 : Int32)), none, none, none] hk dX12_findParts_31 rfl rfl rfl rfl ?_
      refine vv_jn (fun t3 => (t3, 124, [some (rf G 86), some (.int t2.1), none, none, none, none], [])) (fun t3 => ?_) (fun k124 hk124 => ?_)
      · skip
        refine vv_iinc 127 (fun x4 => [some (rf G 86), some (.int x4), none, none, none, none]) hk dX12_findParts_124 rfl rfl ic_1 (fun _ => rfl) (fun x4 => ?_)
        refine vv_goto 25 hk dX12_findParts_127 rfl ?_
        exact vv_le (ll_s rfl (ll_s rfl (ll_n (ll_n (ll_n (ll_n ll_0)))))) (hkl25 (x4, t3))
      · skip
        refine vv_lp (fun t5 => (t5.2, 32, [some (rf G 86), some (.int t2.1), some (.int t5.1), none, none, none], [])) (fun kl32 hkl32 t5 => ?_) FU ((0 : Int32), t2.2)
        refine vv_iload_n (i := 2) 33 hk dX12_findParts_32 rfl rfl rfl ?_
        refine vv_aload_n (i := 0) 34 hk dX12_findParts_33 rfl rfl rfl ?_
        refine vv_getI 37 hk he dX12_findParts_34 rfl la_86 rfl ci_12 rfl fl_12_214 sd_86 ?_
        refine vv_icmp_ge 124 40 hk dX12_findParts_37 rfl rfl ?_ ?_
        · skip
          exact vv_le (ll_s rfl (ll_s rfl (ll_n (ll_n (ll_n (ll_n ll_0)))))) (hk124 t5.2)
        · skip
          refine vv_aload_n (i := 0) 41 hk dX12_findParts_40 rfl rfl rfl ?_
          refine vv_getR 44 hk dX12_findParts_41 rfl la_86 rfl ci_12 rfl fl_12_25 ?_
          refine vv_iload_n (i := 2) 45 hk dX12_findParts_44 rfl rfl rfl ?_
          refine vv_iald 46 hk he dX12_findParts_45 rfl la_92 sd_92 (fun v6 => ?_)
          refine vv_istore_n (i := 3) 47 [some (rf G 86), some (.int t2.1), some (.int t5.1), some (.int v6), none, none] hk dX12_findParts_46 rfl rfl rfl rfl ?_
          refine vv_aload_n (i := 0) 48 hk dX12_findParts_47 rfl rfl rfl ?_
          refine vv_getR 51 hk dX12_findParts_48 rfl la_86 rfl ci_12 rfl fl_12_28 ?_
          refine vv_iload_n (i := 2) 52 hk dX12_findParts_51 rfl rfl rfl ?_
          refine vv_iald 53 hk he dX12_findParts_52 rfl la_93 sd_93 (fun v7 => ?_)
          refine vv_istore 55 [some (rf G 86), some (.int t2.1), some (.int t5.1), some (.int v6), some (.int v7), none] hk dX12_findParts_53 rfl rfl rfl ?_
          refine vv_aload_n (i := 0) 56 hk dX12_findParts_55 rfl rfl rfl ?_
          refine vv_getR 59 hk dX12_findParts_56 rfl la_86 rfl ci_12 rfl fl_12_61 ?_
          refine vv_iload_n (i := 2) 60 hk dX12_findParts_59 rfl rfl rfl ?_
          refine vv_zald 61 hk he dX12_findParts_60 rfl la_104 sd_104 (fun v8 => ?_)
          refine vv_jn (fun t9 => (t9, 118, [some (rf G 86), some (.int t2.1), some (.int t5.1), none, none, none], [])) (fun t9 => ?_) (fun k118 hk118 => ?_)
          · skip
            refine vv_iinc 121 (fun x10 => [some (rf G 86), some (.int t2.1), some (.int x10), none, none, none]) hk dX12_findParts_118 rfl rfl ic_1 (fun _ => rfl) (fun x10 => ?_)
            refine vv_goto 32 hk dX12_findParts_121 rfl ?_
            exact vv_le (ll_s rfl (ll_s rfl (ll_s rfl (ll_n (ll_n (ll_n ll_0)))))) (hkl32 (x10, t9))
          · skip
            refine vv_if_ne 67 64 hk dX12_findParts_61 rfl rfl ?_ ?_
            · skip
              refine vv_goto 118 hk dX12_findParts_64 rfl ?_
              exact vv_le (ll_s rfl (ll_s rfl (ll_s rfl (ll_n (ll_n (ll_n ll_0)))))) (hk118 t5.2)
            · skip
              refine vv_aload_n (i := 0) 68 hk dX12_findParts_67 rfl rfl rfl ?_
              refine vv_getR 71 hk dX12_findParts_68 rfl la_86 rfl ci_12 rfl fl_12_138 ?_
              refine vv_iload_n (i := 3) 72 hk dX12_findParts_71 rfl rfl rfl ?_
              refine vv_iald 73 hk he dX12_findParts_72 rfl la_129 sd_129 (fun v11 => ?_)
              refine vv_aload_n (i := 0) 74 hk dX12_findParts_73 rfl rfl rfl ?_
              refine vv_getR 77 hk dX12_findParts_74 rfl la_86 rfl ci_12 rfl fl_12_138 ?_
              refine vv_iload 79 hk dX12_findParts_77 rfl rfl ?_
              refine vv_iald 80 hk he dX12_findParts_79 rfl la_129 sd_129 (fun v12 => ?_)
              refine vv_jn (fun t13 => (t5.2, 99, [some (rf G 86), some (.int t2.1), some (.int t5.1), some (.int v6), some (.int v7), none], [(.int t13)])) (fun t13 => ?_) (fun k99 hk99 => ?_)
              · skip
                refine vv_istore 101 [some (rf G 86), some (.int t2.1), some (.int t5.1), some (.int v6), some (.int v7), some (.int t13)] hk dX12_findParts_99 rfl rfl rfl ?_
                refine vv_aload_n (i := 0) 102 hk dX12_findParts_101 rfl rfl rfl ?_
                refine vv_getR 105 hk dX12_findParts_102 rfl la_86 rfl ci_12 rfl fl_12_138 ?_
                refine vv_iload_n (i := 3) 106 hk dX12_findParts_105 rfl rfl rfl ?_
                refine vv_iload 108 hk dX12_findParts_106 rfl rfl ?_
                refine vv_iast 109 hk he dX12_findParts_108 rfl la_129 sd_129 (fun σ14 => ?_)
                refine vv_aload_n (i := 0) 110 hk dX12_findParts_109 rfl rfl rfl ?_
                refine vv_getR 113 hk dX12_findParts_110 rfl la_86 rfl ci_12 rfl fl_12_138 ?_
                refine vv_iload 115 hk dX12_findParts_113 rfl rfl ?_
                refine vv_iload 117 hk dX12_findParts_115 rfl rfl ?_
                refine vv_iast 118 hk he dX12_findParts_117 rfl la_129 sd_129 (fun σ15 => ?_)
                exact vv_le (ll_s rfl (ll_s rfl (ll_s rfl (ll_n (ll_n (ll_n ll_0)))))) (hk118 σ15)
              · skip
                refine vv_icmp_ge 92 83 hk dX12_findParts_80 rfl rfl ?_ ?_
                · skip
                  refine vv_aload_n (i := 0) 93 hk dX12_findParts_92 rfl rfl rfl ?_
                  refine vv_getR 96 hk dX12_findParts_93 rfl la_86 rfl ci_12 rfl fl_12_138 ?_
                  refine vv_iload 98 hk dX12_findParts_96 rfl rfl ?_
                  refine vv_iald 99 hk he dX12_findParts_98 rfl la_129 sd_129 (fun v16 => ?_)
                  exact vv_le (ll_s rfl (ll_s rfl (ll_s rfl (ll_s rfl (ll_s rfl (ll_n ll_0)))))) (hk99 v16)
                · skip
                  refine vv_aload_n (i := 0) 84 hk dX12_findParts_83 rfl rfl rfl ?_
                  refine vv_getR 87 hk dX12_findParts_84 rfl la_86 rfl ci_12 rfl fl_12_138 ?_
                  refine vv_iload_n (i := 3) 88 hk dX12_findParts_87 rfl rfl rfl ?_
                  refine vv_iald 89 hk he dX12_findParts_88 rfl la_129 sd_129 (fun v17 => ?_)
                  refine vv_goto 99 hk dX12_findParts_89 rfl ?_
                  exact vv_le (ll_s rfl (ll_s rfl (ll_s rfl (ll_s rfl (ll_s rfl (ll_n ll_0)))))) (hk99 v17)
  · skip
    refine vv_lp (fun t18 => (t18.2, 2, [some (rf G 86), some (.int t18.1), none, none, none, none], [])) (fun kl2 hkl2 t18 => ?_) FU ((0 : Int32), σ)
    refine vv_iload_n (i := 1) 3 hk dX12_findParts_2 rfl rfl rfl ?_
    refine vv_aload_n (i := 0) 4 hk dX12_findParts_3 rfl rfl rfl ?_
    refine vv_getI 7 hk he dX12_findParts_4 rfl la_86 rfl ci_12 rfl fl_12_210 sd_86 ?_
    refine vv_icmp_ge 23 10 hk dX12_findParts_7 rfl rfl ?_ ?_
    · skip
      exact vv_le (ll_s rfl (ll_n (ll_n (ll_n (ll_n (ll_n ll_0)))))) (hk23 t18.2)
    · skip
      refine vv_aload_n (i := 0) 11 hk dX12_findParts_10 rfl rfl rfl ?_
      refine vv_getR 14 hk dX12_findParts_11 rfl la_86 rfl ci_12 rfl fl_12_138 ?_
      refine vv_iload_n (i := 1) 15 hk dX12_findParts_14 rfl rfl rfl ?_
      refine vv_iload_n (i := 1) 16 hk dX12_findParts_15 rfl rfl rfl ?_
      refine vv_iast 17 hk he dX12_findParts_16 rfl la_129 sd_129 (fun σ19 => ?_)
      refine vv_iinc 20 (fun x20 => [some (rf G 86), some (.int x20), none, none, none, none]) hk dX12_findParts_17 rfl rfl ic_1 (fun _ => rfl) (fun x20 => ?_)
      refine vv_goto 2 hk dX12_findParts_20 rfl ?_
      exact vv_le (ll_s rfl (ll_s rfl (ll_n (ll_n (ll_n (ll_n ll_0)))))) (hkl2 (x20, σ19))
theorem c_X12_fits (G : GT) (a1 : Int32) (σ : Hp) : CtI G false yX12_fits cX12_fits 5 (some .boolean) 0 [(rf G 86), (.int a1)] (rdI (f_X12_fits a1 σ) σ) σ := by
  refine ctZr (L0 := [some (rf G 86), some (.int a1), none, none, none]) (by decide +kernel) rfl rfl rfl (fun κ hk he hret => ?_)
  have hk : KO G κ cX12_fits RX12 0 := hk
  refine vv_iconst 1 hk dX12_fits_0 rfl ic_0 ?_
  refine vv_istore_n (i := 2) 2 [some (rf G 86), some (.int a1), some (.int (0 : Int32)), none, none] hk dX12_fits_1 rfl rfl rfl rfl ?_
  refine vv_lp (fun t1 => (σ, 2, [some (rf G 86), some (.int a1), some (.int t1), none, none], [])) (fun kl2 hkl2 t1 => ?_) FU (0 : Int32)
  refine vv_iload_n (i := 2) 3 hk dX12_fits_2 rfl rfl rfl ?_
  refine vv_aload_n (i := 0) 4 hk dX12_fits_3 rfl rfl rfl ?_
  refine vv_getI 7 hk he dX12_fits_4 rfl la_86 rfl ci_12 rfl fl_12_449 sd_86 ?_
  refine vv_icmp_ge 102 10 hk dX12_fits_7 rfl rfl ?_ ?_
  · skip
    refine vv_iconst 103 hk dX12_fits_102 rfl ic_1 ?_
    exact hret _ _ _ dX12_fits_103
  · skip
    refine vv_iconst 11 hk dX12_fits_10 rfl ic_0 ?_
    refine vv_istore_n (i := 3) 12 [some (rf G 86), some (.int a1), some (.int t1), some (.int (0 : Int32)), none] hk dX12_fits_11 rfl rfl rfl rfl ?_
    refine vv_iconst 13 hk dX12_fits_12 rfl ic_0 ?_
    refine vv_istore 15 [some (rf G 86), some (.int a1), some (.int t1), some (.int (0 : Int32)), some (.int (0 : Int32))] hk dX12_fits_13 rfl rfl rfl ?_
    refine vv_jn (fun t2 => (σ, 84, [some (rf G 86), some (.int a1), some (.int t1), some (.int t2), none], [])) (fun t2 => ?_) (fun k84 hk84 => ?_)
    · skip
      refine vv_iload_n (i := 3) 85 hk dX12_fits_84 rfl rfl rfl ?_
      refine vv_aload_n (i := 0) 86 hk dX12_fits_85 rfl rfl rfl ?_
      refine vv_getR 89 hk dX12_fits_86 rfl la_86 rfl ci_12 rfl fl_12_195 ?_
      refine vv_iload_n (i := 2) 90 hk dX12_fits_89 rfl rfl rfl ?_
      refine vv_zald 91 hk he dX12_fits_90 rfl la_148 sd_148 (fun v3 => ?_)
      refine vv_icmp_eq 96 94 hk dX12_fits_91 rfl rfl ?_ ?_
      · skip
        refine vv_iinc 99 (fun x4 => [some (rf G 86), some (.int a1), some (.int x4), some (.int t2), none]) hk dX12_fits_96 rfl rfl ic_1 (fun _ => rfl) (fun x4 => ?_)
        refine vv_goto 2 hk dX12_fits_99 rfl ?_
        exact vv_le (ll_s rfl (ll_s rfl (ll_s rfl (ll_n (ll_n ll_0))))) (hkl2 x4)
      · skip
        refine vv_iconst 95 hk dX12_fits_94 rfl ic_0 ?_
        exact hret _ _ _ dX12_fits_95
    · skip
      refine vv_lp (fun t5 => (σ, 15, [some (rf G 86), some (.int a1), some (.int t1), some (.int t5.1), some (.int t5.2)], [])) (fun kl15 hkl15 t5 => ?_) FU ((0 : Int32), (0 : Int32))
      refine vv_iload 17 hk dX12_fits_15 rfl rfl ?_
      refine vv_aload_n (i := 0) 18 hk dX12_fits_17 rfl rfl rfl ?_
      refine vv_getI 21 hk he dX12_fits_18 rfl la_86 rfl ci_12 rfl fl_12_446 sd_86 ?_
      refine vv_icmp_ge 84 24 hk dX12_fits_21 rfl rfl ?_ ?_
      · skip
        exact vv_le (ll_s rfl (ll_s rfl (ll_s rfl (ll_s rfl (ll_n ll_0))))) (hk84 t5.1)
      · skip
        refine vv_iload_n (i := 3) 25 hk dX12_fits_24 rfl rfl rfl ?_
        refine vv_jn (fun t6 => (σ, 77, [some (rf G 86), some (.int a1), some (.int t1), none, some (.int t5.2)], [(.int t6)])) (fun t6 => ?_) (fun k77 hk77 => ?_)
        · skip
          refine vv_istore_n (i := 3) 78 [some (rf G 86), some (.int a1), some (.int t1), some (.int t6), some (.int t5.2)] hk dX12_fits_77 rfl rfl rfl rfl ?_
          refine vv_iinc 81 (fun x7 => [some (rf G 86), some (.int a1), some (.int t1), some (.int t6), some (.int x7)]) hk dX12_fits_78 rfl rfl ic_1 (fun _ => rfl) (fun x7 => ?_)
          refine vv_goto 15 hk dX12_fits_81 rfl ?_
          exact vv_le (ll_s rfl (ll_s rfl (ll_s rfl (ll_s rfl (ll_s rfl ll_0))))) (hkl15 (t6, x7))
        · skip
          refine vv_jn (fun t8 => (σ, 72, [some (rf G 86), some (.int a1), some (.int t1), none, some (.int t5.2)], [])) (fun t8 => ?_) (fun k72 hk72 => ?_)
          · skip
            refine vv_iconst 73 hk dX12_fits_72 rfl ic_1 ?_
            refine vv_goto 77 hk dX12_fits_73 rfl ?_
            exact vv_le (ll_s rfl (ll_s rfl (ll_s rfl (ll_n (ll_s rfl ll_0))))) (hk77 (1 : Int32))
          · skip
            refine vv_if_ne 72 28 hk dX12_fits_25 rfl rfl ?_ ?_
            · skip
              refine vv_iload_n (i := 1) 29 hk dX12_fits_28 rfl rfl rfl ?_
              refine vv_aload_n (i := 0) 30 hk dX12_fits_29 rfl rfl rfl ?_
              refine vv_getR 33 hk dX12_fits_30 rfl la_86 rfl ci_12 rfl fl_12_183 ?_
              refine vv_iload 35 hk dX12_fits_33 rfl rfl ?_
              refine vv_iald 36 hk he dX12_fits_35 rfl la_144 sd_144 (fun v9 => ?_)
              refine vv_ishr 37 hk dX12_fits_36 rfl ?_
              refine vv_iconst 38 hk dX12_fits_37 rfl ic_1 ?_
              refine vv_iand 39 hk dX12_fits_38 rfl ?_
              refine vv_iconst 40 hk dX12_fits_39 rfl ic_1 ?_
              refine vv_jn (fun t10 => (σ, 76, [some (rf G 86), some (.int a1), some (.int t1), none, some (.int t5.2)], [])) (fun t10 => ?_) (fun k76 hk76 => ?_)
              · skip
                refine vv_iconst 77 hk dX12_fits_76 rfl ic_0 ?_
                exact vv_le (ll_s rfl (ll_s rfl (ll_s rfl (ll_n (ll_s rfl ll_0))))) (hk77 (0 : Int32))
              · skip
                refine vv_icmp_ne 76 43 hk dX12_fits_40 rfl rfl ?_ ?_
                · skip
                  refine vv_aload_n (i := 0) 44 hk dX12_fits_43 rfl rfl rfl ?_
                  refine vv_getR 47 hk dX12_fits_44 rfl la_86 rfl ci_12 rfl fl_12_186 ?_
                  refine vv_iload 49 hk dX12_fits_47 rfl rfl ?_
                  refine vv_iald 50 hk he dX12_fits_49 rfl la_145 sd_145 (fun v11 => ?_)
                  refine vv_aload_n (i := 0) 51 hk dX12_fits_50 rfl rfl rfl ?_
                  refine vv_getR 54 hk dX12_fits_51 rfl la_86 rfl ci_12 rfl fl_12_180 ?_
                  refine vv_aload_n (i := 0) 55 hk dX12_fits_54 rfl rfl rfl ?_
                  refine vv_getR 58 hk dX12_fits_55 rfl la_86 rfl ci_12 rfl fl_12_183 ?_
                  refine vv_iload 60 hk dX12_fits_58 rfl rfl ?_
                  refine vv_iald 61 hk he dX12_fits_60 rfl la_144 sd_144 (fun v12 => ?_)
                  refine vv_iald 62 hk he dX12_fits_61 rfl la_143 sd_143 (fun v13 => ?_)
                  refine vv_iadd 63 hk dX12_fits_62 rfl ?_
                  refine vv_aload_n (i := 0) 64 hk dX12_fits_63 rfl rfl rfl ?_
                  refine vv_getR 67 hk dX12_fits_64 rfl la_86 rfl ci_12 rfl fl_12_189 ?_
                  refine vv_iload_n (i := 2) 68 hk dX12_fits_67 rfl rfl rfl ?_
                  refine vv_iald 69 hk he dX12_fits_68 rfl la_146 sd_146 (fun v14 => ?_)
                  refine vv_icmp_ne 76 72 hk dX12_fits_69 rfl rfl ?_ ?_
                  · skip
                    exact vv_le (ll_s rfl (ll_s rfl (ll_s rfl (ll_n (ll_s rfl ll_0))))) (hk72 ())
                  · skip
                    exact vv_le (ll_s rfl (ll_s rfl (ll_s rfl (ll_n (ll_s rfl ll_0))))) (hk76 ())
                · skip
                  exact vv_le (ll_s rfl (ll_s rfl (ll_s rfl (ll_n (ll_s rfl ll_0))))) (hk76 ())
            · skip
              exact vv_le (ll_s rfl (ll_s rfl (ll_s rfl (ll_n (ll_s rfl ll_0))))) (hk72 ())
theorem c_X12_moves (G : GT) (a1 : Int32) (a2 : Int32) (a3 : Int32) (σ : Hp) : CtV G false yX12_moves cX12_moves 5 none 0 [(rf G 86), (.int a1), (.int a2), (.int a3)] (f_X12_moves a1 a2 a3 σ) σ := by
  refine ctV (L0 := [some (rf G 86), some (.int a1), some (.int a2), some (.int a3), none]) (by decide +kernel) rfl rfl rfl (fun κ hk he hret => ?_)
  have hk : KO G κ cX12_moves RX12 0 := hk
  refine vv_iload_n (i := 3) 1 hk dX12_moves_0 rfl rfl rfl ?_
  refine vv_aload_n (i := 0) 2 hk dX12_moves_1 rfl rfl rfl ?_
  refine vv_getR 5 hk dX12_moves_2 rfl la_86 rfl ci_12 rfl fl_12_46 ?_
  refine vv_iload_n (i := 1) 6 hk dX12_moves_5 rfl rfl rfl ?_
  refine vv_iald 7 hk he dX12_moves_6 rfl la_99 sd_99 (fun v1 => ?_)
  refine vv_jn (fun t2 => (σ, 20, [some (rf G 86), some (.int a1), some (.int a2), none, none], [(.int t2)])) (fun t2 => ?_) (fun k20 hk20 => ?_)
  · skip
    refine vv_istore 22 [some (rf G 86), some (.int a1), some (.int a2), none, some (.int t2)] hk dX12_moves_20 rfl rfl rfl ?_
    refine vv_aload_n (i := 0) 23 hk dX12_moves_22 rfl rfl rfl ?_
    refine vv_getR 26 hk dX12_moves_23 rfl la_86 rfl ci_12 rfl fl_12_46 ?_
    refine vv_iload_n (i := 1) 27 hk dX12_moves_26 rfl rfl rfl ?_
    refine vv_dup2 28 hk dX12_moves_27 rfl rfl rfl ?_
    refine vv_iald 29 hk he dX12_moves_28 rfl la_99 sd_99 (fun v3 => ?_)
    refine vv_iload 31 hk dX12_moves_29 rfl rfl ?_
    refine vv_isub 32 hk dX12_moves_31 rfl ?_
    refine vv_iast 33 hk he dX12_moves_32 rfl la_99 sd_99 (fun σ4 => ?_)
    refine vv_aload_n (i := 0) 34 hk dX12_moves_33 rfl rfl rfl ?_
    refine vv_getR 37 hk dX12_moves_34 rfl la_86 rfl ci_12 rfl fl_12_46 ?_
    refine vv_iload_n (i := 2) 38 hk dX12_moves_37 rfl rfl rfl ?_
    refine vv_dup2 39 hk dX12_moves_38 rfl rfl rfl ?_
    refine vv_iald 40 hk he dX12_moves_39 rfl la_99 sd_99 (fun v5 => ?_)
    refine vv_iload 42 hk dX12_moves_40 rfl rfl ?_
    refine vv_iadd 43 hk dX12_moves_42 rfl ?_
    refine vv_iast 44 hk he dX12_moves_43 rfl la_99 sd_99 (fun σ6 => ?_)
    exact hret _ _ _ dX12_moves_44
  · skip
    refine vv_icmp_ge 14 10 hk dX12_moves_7 rfl rfl ?_ ?_
    · skip
      refine vv_aload_n (i := 0) 15 hk dX12_moves_14 rfl rfl rfl ?_
      refine vv_getR 18 hk dX12_moves_15 rfl la_86 rfl ci_12 rfl fl_12_46 ?_
      refine vv_iload_n (i := 1) 19 hk dX12_moves_18 rfl rfl rfl ?_
      refine vv_iald 20 hk he dX12_moves_19 rfl la_99 sd_99 (fun v7 => ?_)
      exact vv_le (ll_s rfl (ll_s rfl (ll_s rfl (ll_n (ll_n ll_0))))) (hk20 v7)
    · skip
      refine vv_iload_n (i := 3) 11 hk dX12_moves_10 rfl rfl rfl ?_
      refine vv_goto 20 hk dX12_moves_11 rfl ?_
      exact vv_le (ll_s rfl (ll_s rfl (ll_s rfl (ll_n (ll_n ll_0))))) (hk20 a3)
theorem c_X12_share (G : GT) (a1 : Int32) (a2 : Int32) (σ : Hp) : CtI G false yX12_share cX12_share 3 (some .int) 0 [(rf G 86), (.int a1), (.int a2)] (rdI (f_X12_share a1 a2 σ) σ) σ := by
  refine ctIr (L0 := [some (rf G 86), some (.int a1), some (.int a2)]) (by decide +kernel) rfl rfl rfl (fun κ hk he hret => ?_)
  have hk : KO G κ cX12_share RX12 0 := hk
  refine vv_aload_n (i := 0) 1 hk dX12_share_0 rfl rfl rfl ?_
  refine vv_getR 4 hk dX12_share_1 rfl la_86 rfl ci_12 rfl fl_12_46 ?_
  refine vv_iload_n (i := 1) 5 hk dX12_share_4 rfl rfl rfl ?_
  refine vv_iald 6 hk he dX12_share_5 rfl la_99 sd_99 (fun v1 => ?_)
  refine vv_i2l 7 hk dX12_share_6 rfl ?_
  refine vv_iload_n (i := 2) 8 hk dX12_share_7 rfl rfl rfl ?_
  refine vv_i2l 9 hk dX12_share_8 rfl ?_
  refine vv_lmul 10 hk dX12_share_9 rfl ?_
  refine vv_ldc2 13 hk dX12_share_10 rfl cw_12_255 ?_
  refine vv_aload_n (i := 0) 14 hk dX12_share_13 rfl rfl rfl ?_
  refine vv_getR 17 hk dX12_share_14 rfl la_86 rfl ci_12 rfl fl_12_13 ?_
  refine vv_iload_n (i := 1) 18 hk dX12_share_17 rfl rfl rfl ?_
  refine vv_iconst 19 hk dX12_share_18 rfl ic_3 ?_
  refine vv_idiv 20 hk dX12_share_19 rfl ?_
  refine vv_iald 21 hk he dX12_share_20 rfl la_88 sd_88 (fun v2 => ?_)
  refine vv_i2l 22 hk dX12_share_21 rfl ?_
  refine vv_lmul 23 hk dX12_share_22 rfl ?_
  refine vv_ldiv 24 hk dX12_share_23 rfl ?_
  refine vv_l2i 25 hk dX12_share_24 rfl ?_
  exact hret _ _ _ dX12_share_25
theorem c_X12_flows (G : GT) (σ : Hp) : CtV G false yX12_flows cX12_flows 3 none 1 [(rf G 86)] (f_X12_flows σ) σ := by
  refine ctV (L0 := [some (rf G 86), none, none]) (by decide +kernel) rfl rfl rfl (fun κ hk he hret => ?_)
  have hk : KO G κ cX12_flows RX12 1 := hk
  refine vv_iconst 1 hk dX12_flows_0 rfl ic_0 ?_
  refine vv_istore_n (i := 1) 2 [some (rf G 86), some (.int (0 : Int32)), none] hk dX12_flows_1 rfl rfl rfl rfl ?_
  refine vv_jn (fun t1 => (t1, 98, [some (rf G 86), none, none], [])) (fun t1 => ?_) (fun k98 hk98 => ?_)
  · skip
    refine vv_iconst 99 hk dX12_flows_98 rfl ic_0 ?_
    refine vv_istore_n (i := 1) 100 [some (rf G 86), some (.int (0 : Int32)), none] hk dX12_flows_99 rfl rfl rfl rfl ?_
    refine vv_lp (fun t2 => (t2.2, 100, [some (rf G 86), some (.int t2.1), none], [])) (fun kl100 hkl100 t2 => ?_) FU ((0 : Int32), t1)
    refine vv_iload_n (i := 1) 101 hk dX12_flows_100 rfl rfl rfl ?_
    refine vv_aload_n (i := 0) 102 hk dX12_flows_101 rfl rfl rfl ?_
    refine vv_getI 105 hk he dX12_flows_102 rfl la_86 rfl ci_12 rfl fl_12_214 sd_86 ?_
    refine vv_icmp_ge 204 108 hk dX12_flows_105 rfl rfl ?_ ?_
    · skip
      exact hret _ _ _ dX12_flows_204
    · skip
      refine vv_iconst 109 hk dX12_flows_108 rfl ic_0 ?_
      refine vv_istore_n (i := 2) 110 [some (rf G 86), some (.int t2.1), some (.int (0 : Int32))] hk dX12_flows_109 rfl rfl rfl rfl ?_
      refine vv_jn (fun t3 => (t3, 198, [some (rf G 86), some (.int t2.1), none], [])) (fun t3 => ?_) (fun k198 hk198 => ?_)
      · skip
        refine vv_iinc 201 (fun x4 => [some (rf G 86), some (.int x4), none]) hk dX12_flows_198 rfl rfl ic_1 (fun _ => rfl) (fun x4 => ?_)
        refine vv_goto 100 hk dX12_flows_201 rfl ?_
        exact vv_le (ll_s rfl (ll_s rfl (ll_n ll_0))) (hkl100 (x4, t3))
      · skip
        refine vv_lp (fun t5 => (t5.2, 110, [some (rf G 86), some (.int t2.1), some (.int t5.1)], [])) (fun kl110 hkl110 t5 => ?_) FU ((0 : Int32), t2.2)
        refine vv_iload_n (i := 2) 111 hk dX12_flows_110 rfl rfl rfl ?_
        refine vv_iconst 112 hk dX12_flows_111 rfl ic_3 ?_
        refine vv_icmp_ge 198 115 hk dX12_flows_112 rfl rfl ?_ ?_
        · skip
          exact vv_le (ll_s rfl (ll_s rfl (ll_n ll_0))) (hk198 t5.2)
        · skip
          refine vv_aload_n (i := 0) 116 hk dX12_flows_115 rfl rfl rfl ?_
          refine vv_getR 119 hk dX12_flows_116 rfl la_86 rfl ci_12 rfl fl_12_61 ?_
          refine vv_iload_n (i := 1) 120 hk dX12_flows_119 rfl rfl rfl ?_
          refine vv_zald 121 hk he dX12_flows_120 rfl la_104 sd_104 (fun v6 => ?_)
          refine vv_if_eq 198 124 hk dX12_flows_121 rfl rfl ?_ ?_
          · skip
            exact vv_le (ll_s rfl (ll_s rfl (ll_n ll_0))) (hk198 t5.2)
          · skip
            refine vv_aload_n (i := 0) 125 hk dX12_flows_124 rfl rfl rfl ?_
            refine vv_iconst 126 hk dX12_flows_125 rfl ic_3 ?_
            refine vv_aload_n (i := 0) 127 hk dX12_flows_126 rfl rfl rfl ?_
            refine vv_getR 130 hk dX12_flows_127 rfl la_86 rfl ci_12 rfl fl_12_25 ?_
            refine vv_iload_n (i := 1) 131 hk dX12_flows_130 rfl rfl rfl ?_
            refine vv_iald 132 hk he dX12_flows_131 rfl la_92 sd_92 (fun v7 => ?_)
            refine vv_imul 133 hk dX12_flows_132 rfl ?_
            refine vv_iload_n (i := 2) 134 hk dX12_flows_133 rfl rfl rfl ?_
            refine vv_iadd 135 hk dX12_flows_134 rfl ?_
            refine vv_iconst 136 hk dX12_flows_135 rfl ic_3 ?_
            refine vv_aload_n (i := 0) 137 hk dX12_flows_136 rfl rfl rfl ?_
            refine vv_getR 140 hk dX12_flows_137 rfl la_86 rfl ci_12 rfl fl_12_28 ?_
            refine vv_iload_n (i := 1) 141 hk dX12_flows_140 rfl rfl rfl ?_
            refine vv_iald 142 hk he dX12_flows_141 rfl la_93 sd_93 (fun v8 => ?_)
            refine vv_imul 143 hk dX12_flows_142 rfl ?_
            refine vv_iload_n (i := 2) 144 hk dX12_flows_143 rfl rfl rfl ?_
            refine vv_iadd 145 hk dX12_flows_144 rfl ?_
            refine vv_aload_n (i := 0) 146 hk dX12_flows_145 rfl rfl rfl ?_
            refine vv_getR 149 hk dX12_flows_146 rfl la_86 rfl ci_12 rfl fl_12_71 ?_
            refine vv_iconst 150 hk dX12_flows_149 rfl ic_3 ?_
            refine vv_iload_n (i := 1) 151 hk dX12_flows_150 rfl rfl rfl ?_
            refine vv_imul 152 hk dX12_flows_151 rfl ?_
            refine vv_iload_n (i := 2) 153 hk dX12_flows_152 rfl rfl rfl ?_
            refine vv_iadd 154 hk dX12_flows_153 rfl ?_
            refine vv_iald 155 hk he dX12_flows_154 rfl la_107 sd_107 (fun v9 => ?_)
            refine vv_invV (st := []) 158 hk he dX12_flows_155 rfl ml_12_261 cf_X12_moves la_86 ci_12 (c_X12_moves G (((3 : Int32) * v7) + t5.1) (((3 : Int32) * v8) + t5.1) v9 t5.2) rfl rfl rfl rfl (fun σ10 => ?_)
            refine vv_aload_n (i := 0) 159 hk dX12_flows_158 rfl rfl rfl ?_
            refine vv_iconst 160 hk dX12_flows_159 rfl ic_3 ?_
            refine vv_aload_n (i := 0) 161 hk dX12_flows_160 rfl rfl rfl ?_
            refine vv_getR 164 hk dX12_flows_161 rfl la_86 rfl ci_12 rfl fl_12_28 ?_
            refine vv_iload_n (i := 1) 165 hk dX12_flows_164 rfl rfl rfl ?_
            refine vv_iald 166 hk he dX12_flows_165 rfl la_93 sd_93 (fun v11 => ?_)
            refine vv_imul 167 hk dX12_flows_166 rfl ?_
            refine vv_iload_n (i := 2) 168 hk dX12_flows_167 rfl rfl rfl ?_
            refine vv_iadd 169 hk dX12_flows_168 rfl ?_
            refine vv_iconst 170 hk dX12_flows_169 rfl ic_3 ?_
            refine vv_aload_n (i := 0) 171 hk dX12_flows_170 rfl rfl rfl ?_
            refine vv_getR 174 hk dX12_flows_171 rfl la_86 rfl ci_12 rfl fl_12_25 ?_
            refine vv_iload_n (i := 1) 175 hk dX12_flows_174 rfl rfl rfl ?_
            refine vv_iald 176 hk he dX12_flows_175 rfl la_92 sd_92 (fun v12 => ?_)
            refine vv_imul 177 hk dX12_flows_176 rfl ?_
            refine vv_iload_n (i := 2) 178 hk dX12_flows_177 rfl rfl rfl ?_
            refine vv_iadd 179 hk dX12_flows_178 rfl ?_
            refine vv_aload_n (i := 0) 180 hk dX12_flows_179 rfl rfl rfl ?_
            refine vv_getR 183 hk dX12_flows_180 rfl la_86 rfl ci_12 rfl fl_12_74 ?_
            refine vv_iconst 184 hk dX12_flows_183 rfl ic_3 ?_
            refine vv_iload_n (i := 1) 185 hk dX12_flows_184 rfl rfl rfl ?_
            refine vv_imul 186 hk dX12_flows_185 rfl ?_
            refine vv_iload_n (i := 2) 187 hk dX12_flows_186 rfl rfl rfl ?_
            refine vv_iadd 188 hk dX12_flows_187 rfl ?_
            refine vv_iald 189 hk he dX12_flows_188 rfl la_108 sd_108 (fun v13 => ?_)
            refine vv_invV (st := []) 192 hk he dX12_flows_189 rfl ml_12_261 cf_X12_moves la_86 ci_12 (c_X12_moves G (((3 : Int32) * v11) + t5.1) (((3 : Int32) * v12) + t5.1) v13 σ10) rfl rfl rfl rfl (fun σ14 => ?_)
            refine vv_iinc 195 (fun x15 => [some (rf G 86), some (.int t2.1), some (.int x15)]) hk dX12_flows_192 rfl rfl ic_1 (fun _ => rfl) (fun x15 => ?_)
            refine vv_goto 110 hk dX12_flows_195 rfl ?_
            exact vv_le (ll_s rfl (ll_s rfl (ll_s rfl ll_0))) (hkl110 (x15, σ14))
  · skip
    refine vv_lp (fun t16 => (t16.2, 2, [some (rf G 86), some (.int t16.1), none], [])) (fun kl2 hkl2 t16 => ?_) FU ((0 : Int32), σ)
    refine vv_iload_n (i := 1) 3 hk dX12_flows_2 rfl rfl rfl ?_
    refine vv_aload_n (i := 0) 4 hk dX12_flows_3 rfl rfl rfl ?_
    refine vv_getI 7 hk he dX12_flows_4 rfl la_86 rfl ci_12 rfl fl_12_214 sd_86 ?_
    refine vv_icmp_ge 98 10 hk dX12_flows_7 rfl rfl ?_ ?_
    · skip
      exact vv_le (ll_s rfl (ll_n (ll_n ll_0))) (hk98 t16.2)
    · skip
      refine vv_iconst 11 hk dX12_flows_10 rfl ic_0 ?_
      refine vv_istore_n (i := 2) 12 [some (rf G 86), some (.int t16.1), some (.int (0 : Int32))] hk dX12_flows_11 rfl rfl rfl rfl ?_
      refine vv_jn (fun t17 => (t17, 92, [some (rf G 86), some (.int t16.1), none], [])) (fun t17 => ?_) (fun k92 hk92 => ?_)
      · skip
        refine vv_iinc 95 (fun x18 => [some (rf G 86), some (.int x18), none]) hk dX12_flows_92 rfl rfl ic_1 (fun _ => rfl) (fun x18 => ?_)
        refine vv_goto 2 hk dX12_flows_95 rfl ?_
        exact vv_le (ll_s rfl (ll_s rfl (ll_n ll_0))) (hkl2 (x18, t17))
      · skip
        refine vv_lp (fun t19 => (t19.2, 12, [some (rf G 86), some (.int t16.1), some (.int t19.1)], [])) (fun kl12 hkl12 t19 => ?_) FU ((0 : Int32), t16.2)
        refine vv_iload_n (i := 2) 13 hk dX12_flows_12 rfl rfl rfl ?_
        refine vv_iconst 14 hk dX12_flows_13 rfl ic_3 ?_
        refine vv_icmp_ge 92 17 hk dX12_flows_14 rfl rfl ?_ ?_
        · skip
          exact vv_le (ll_s rfl (ll_s rfl (ll_n ll_0))) (hk92 t19.2)
        · skip
          refine vv_aload_n (i := 0) 18 hk dX12_flows_17 rfl rfl rfl ?_
          refine vv_getR 21 hk dX12_flows_18 rfl la_86 rfl ci_12 rfl fl_12_61 ?_
          refine vv_iload_n (i := 1) 22 hk dX12_flows_21 rfl rfl rfl ?_
          refine vv_zald 23 hk he dX12_flows_22 rfl la_104 sd_104 (fun v20 => ?_)
          refine vv_if_eq 92 26 hk dX12_flows_23 rfl rfl ?_ ?_
          · skip
            exact vv_le (ll_s rfl (ll_s rfl (ll_n ll_0))) (hk92 t19.2)
          · skip
            refine vv_aload_n (i := 0) 27 hk dX12_flows_26 rfl rfl rfl ?_
            refine vv_getR 30 hk dX12_flows_27 rfl la_86 rfl ci_12 rfl fl_12_71 ?_
            refine vv_iconst 31 hk dX12_flows_30 rfl ic_3 ?_
            refine vv_iload_n (i := 1) 32 hk dX12_flows_31 rfl rfl rfl ?_
            refine vv_imul 33 hk dX12_flows_32 rfl ?_
            refine vv_iload_n (i := 2) 34 hk dX12_flows_33 rfl rfl rfl ?_
            refine vv_iadd 35 hk dX12_flows_34 rfl ?_
            refine vv_aload_n (i := 0) 36 hk dX12_flows_35 rfl rfl rfl ?_
            refine vv_iconst 37 hk dX12_flows_36 rfl ic_3 ?_
            refine vv_aload_n (i := 0) 38 hk dX12_flows_37 rfl rfl rfl ?_
            refine vv_getR 41 hk dX12_flows_38 rfl la_86 rfl ci_12 rfl fl_12_25 ?_
            refine vv_iload_n (i := 1) 42 hk dX12_flows_41 rfl rfl rfl ?_
            refine vv_iald 43 hk he dX12_flows_42 rfl la_92 sd_92 (fun v21 => ?_)
            refine vv_imul 44 hk dX12_flows_43 rfl ?_
            refine vv_iload_n (i := 2) 45 hk dX12_flows_44 rfl rfl rfl ?_
            refine vv_iadd 46 hk dX12_flows_45 rfl ?_
            refine vv_aload_n (i := 0) 47 hk dX12_flows_46 rfl rfl rfl ?_
            refine vv_getR 50 hk dX12_flows_47 rfl la_86 rfl ci_12 rfl fl_12_31 ?_
            refine vv_iload_n (i := 1) 51 hk dX12_flows_50 rfl rfl rfl ?_
            refine vv_iald 52 hk he dX12_flows_51 rfl la_94 sd_94 (fun v22 => ?_)
            refine vv_invIr (st := [(.int (((3 : Int32) * t16.1) + t19.1)), (rf G 107)]) 55 hk he dX12_flows_52 rfl ml_12_257 cf_X12_share la_86 ci_12 (c_X12_share G (((3 : Int32) * v21) + t19.1) v22 t19.2) rfl rfl rfl rfl (fun v23 => ?_)
            refine vv_iast 56 hk he dX12_flows_55 rfl la_107 sd_107 (fun σ24 => ?_)
            refine vv_aload_n (i := 0) 57 hk dX12_flows_56 rfl rfl rfl ?_
            refine vv_getR 60 hk dX12_flows_57 rfl la_86 rfl ci_12 rfl fl_12_74 ?_
            refine vv_iconst 61 hk dX12_flows_60 rfl ic_3 ?_
            refine vv_iload_n (i := 1) 62 hk dX12_flows_61 rfl rfl rfl ?_
            refine vv_imul 63 hk dX12_flows_62 rfl ?_
            refine vv_iload_n (i := 2) 64 hk dX12_flows_63 rfl rfl rfl ?_
            refine vv_iadd 65 hk dX12_flows_64 rfl ?_
            refine vv_aload_n (i := 0) 66 hk dX12_flows_65 rfl rfl rfl ?_
            refine vv_iconst 67 hk dX12_flows_66 rfl ic_3 ?_
            refine vv_aload_n (i := 0) 68 hk dX12_flows_67 rfl rfl rfl ?_
            refine vv_getR 71 hk dX12_flows_68 rfl la_86 rfl ci_12 rfl fl_12_28 ?_
            refine vv_iload_n (i := 1) 72 hk dX12_flows_71 rfl rfl rfl ?_
            refine vv_iald 73 hk he dX12_flows_72 rfl la_93 sd_93 (fun v25 => ?_)
            refine vv_imul 74 hk dX12_flows_73 rfl ?_
            refine vv_iload_n (i := 2) 75 hk dX12_flows_74 rfl rfl rfl ?_
            refine vv_iadd 76 hk dX12_flows_75 rfl ?_
            refine vv_aload_n (i := 0) 77 hk dX12_flows_76 rfl rfl rfl ?_
            refine vv_getR 80 hk dX12_flows_77 rfl la_86 rfl ci_12 rfl fl_12_31 ?_
            refine vv_iload_n (i := 1) 81 hk dX12_flows_80 rfl rfl rfl ?_
            refine vv_iald 82 hk he dX12_flows_81 rfl la_94 sd_94 (fun v26 => ?_)
            refine vv_invIr (st := [(.int (((3 : Int32) * t16.1) + t19.1)), (rf G 108)]) 85 hk he dX12_flows_82 rfl ml_12_257 cf_X12_share la_86 ci_12 (c_X12_share G (((3 : Int32) * v25) + t19.1) v26 σ24) rfl rfl rfl rfl (fun v27 => ?_)
            refine vv_iast 86 hk he dX12_flows_85 rfl la_108 sd_108 (fun σ28 => ?_)
            refine vv_iinc 89 (fun x29 => [some (rf G 86), some (.int t16.1), some (.int x29)]) hk dX12_flows_86 rfl rfl ic_1 (fun _ => rfl) (fun x29 => ?_)
            refine vv_goto 12 hk dX12_flows_89 rfl ?_
            exact vv_le (ll_s rfl (ll_s rfl (ll_s rfl ll_0))) (hkl12 (x29, σ28))
theorem c_X12_forbids (G : GT) (a1 : Int32) (a2 : Int32) (σ : Hp) : CtI G false yX12_forbids cX12_forbids 3 (some .int) 6 [(rf G 86), (.int a1), (.int a2)] (f_X12_forbids a1 a2 σ) σ := by
  refine ctI (L0 := [some (rf G 86), some (.int a1), some (.int a2)]) (by decide +kernel) rfl rfl rfl (fun κ hk he hret => ?_)
  have hk : KO G κ cX12_forbids RX12 6 := hk
  refine vv_iload_n (i := 2) 1 hk dX12_forbids_0 rfl rfl rfl ?_
  refine vv_jn (fun t1 => (σ, 29, [some (rf G 86), some (.int a1), some (.int a2)], [])) (fun t1 => ?_) (fun k29 hk29 => ?_)
  · skip
    refine vv_aload_n (i := 0) 30 hk dX12_forbids_29 rfl rfl rfl ?_
    refine vv_iload_n (i := 1) 31 hk dX12_forbids_30 rfl rfl rfl ?_
    refine vv_iload_n (i := 2) 32 hk dX12_forbids_31 rfl rfl rfl ?_
    refine vv_invI (st := []) 35 hk he dX12_forbids_32 rfl ml_12_372 cf_X12_forbidden la_86 ci_12 (c_X12_forbidden G a1 a2 σ) rfl rfl rfl rfl (fun v2 σ3 => ?_)
    exact hret _ _ _ _ dX12_forbids_35
  · skip
    refine vv_jn (fun t4 => (σ, 23, [some (rf G 86), none, none], [])) (fun t4 => ?_) (fun k23 hk23 => ?_)
    · skip
      refine vv_aload_n (i := 0) 24 hk dX12_forbids_23 rfl rfl rfl ?_
      refine vv_iconst 25 hk dX12_forbids_24 rfl ic_m1 ?_
      refine vv_invI (st := []) 28 hk he dX12_forbids_25 rfl ml_12_226 cf_X12_no la_86 ci_12 (c_X12_no G (-1 : Int32) σ) rfl rfl rfl rfl (fun v5 σ6 => ?_)
      exact hret _ _ _ _ dX12_forbids_28
    · skip
      refine vv_if_eq 15 4 hk dX12_forbids_1 rfl rfl ?_ ?_
      · skip
        refine vv_aload_n (i := 0) 16 hk dX12_forbids_15 rfl rfl rfl ?_
        refine vv_iload_n (i := 1) 17 hk dX12_forbids_16 rfl rfl rfl ?_
        refine vv_invIr (st := []) 20 hk he dX12_forbids_17 rfl ml_12_342 cf_X12_isPipe la_86 ci_12 (c_X12_isPipe G a1 σ) rfl rfl rfl rfl (fun v7 => ?_)
        refine vv_if_ne 29 23 hk dX12_forbids_20 rfl rfl ?_ ?_
        · skip
          exact vv_le (ll_s rfl (ll_n (ll_n ll_0))) (hk23 ())
        · skip
          exact vv_le (ll_s rfl (ll_s rfl (ll_s rfl ll_0))) (hk29 ())
      · skip
        refine vv_aload_n (i := 0) 5 hk dX12_forbids_4 rfl rfl rfl ?_
        refine vv_iload_n (i := 1) 6 hk dX12_forbids_5 rfl rfl rfl ?_
        refine vv_invIr (st := []) 9 hk he dX12_forbids_6 rfl ml_12_295 cf_X12_isPump la_86 ci_12 (c_X12_isPump G a1 σ) rfl rfl rfl rfl (fun v8 => ?_)
        refine vv_if_ne 29 12 hk dX12_forbids_9 rfl rfl ?_ ?_
        · skip
          refine vv_goto 23 hk dX12_forbids_12 rfl ?_
          exact vv_le (ll_s rfl (ll_n (ll_n ll_0))) (hk23 ())
        · skip
          exact vv_le (ll_s rfl (ll_s rfl (ll_s rfl ll_0))) (hk29 ())
theorem c_X12_forgets (G : GT) (σ : Hp) : CtV G false yX12_forgets cX12_forgets 1 none 0 [(rf G 86)] (f_X12_forgets σ) σ := by
  refine ctV (L0 := [some (rf G 86)]) (by decide +kernel) rfl rfl rfl (fun κ hk he hret => ?_)
  have hk : KO G κ cX12_forgets RX12 0 := hk
  refine vv_aload_n (i := 0) 1 hk dX12_forgets_0 rfl rfl rfl ?_
  refine vv_iconst 2 hk dX12_forgets_1 rfl ic_0 ?_
  refine vv_putI 5 hk he dX12_forgets_2 rfl la_86 rfl ci_12 rfl fl_12_376 sd_86 rfl rfl (fun σ1 => ?_)
  refine vv_aload_n (i := 0) 6 hk dX12_forgets_5 rfl rfl rfl ?_
  refine vv_iconst 7 hk dX12_forgets_6 rfl ic_0 ?_
  refine vv_putI 10 hk he dX12_forgets_7 rfl la_86 rfl ci_12 rfl fl_12_379 sd_86 rfl rfl (fun σ2 => ?_)
  exact hret _ _ _ dX12_forgets_10
theorem c_X12_gas (G : GT) (a1 : Int32) (a2 : Int32) (a3 : Int32) (a4 : Int32) (σ : Hp) : CtI G false yX12_gas cX12_gas 7 (some .int) 1 [(rf G 86), (.int a1), (.int a2), (.int a3), (.int a4)] (f_X12_gas a1 a2 a3 a4 σ) σ := by
  refine ctI (L0 := [some (rf G 86), some (.int a1), some (.int a2), some (.int a3), some (.int a4), none, none]) (by decide +kernel) rfl rfl rfl (fun κ hk he hret => ?_)
  have hk : KO G κ cX12_gas RX12 1 := hk
  refine vv_aload_n (i := 0) 1 hk dX12_gas_0 rfl rfl rfl ?_
  refine vv_iload_n (i := 1) 2 hk dX12_gas_1 rfl rfl rfl ?_
  refine vv_invIr (st := []) 5 hk he dX12_gas_2 rfl ml_12_238 cf_X12_isRoom la_86 ci_12 (c_X12_isRoom G a1 σ) rfl rfl rfl rfl (fun v1 => ?_)
  refine vv_jn (fun t2 => (σ, 15, [some (rf G 86), none, none, none, none, none, none], [])) (fun t2 => ?_) (fun k15 hk15 => ?_)
  · skip
    refine vv_aload_n (i := 0) 16 hk dX12_gas_15 rfl rfl rfl ?_
    refine vv_iconst 17 hk dX12_gas_16 rfl ic_m1 ?_
    refine vv_invI (st := []) 20 hk he dX12_gas_17 rfl ml_12_226 cf_X12_no la_86 ci_12 (c_X12_no G (-1 : Int32) σ) rfl rfl rfl rfl (fun v3 σ4 => ?_)
    exact hret _ _ _ _ dX12_gas_20
  · skip
    refine vv_if_eq 15 8 hk dX12_gas_5 rfl rfl ?_ ?_
    · skip
      exact vv_le (ll_s rfl (ll_n (ll_n (ll_n (ll_n (ll_n (ll_n ll_0))))))) (hk15 ())
    · skip
      refine vv_iload_n (i := 2) 9 hk dX12_gas_8 rfl rfl rfl ?_
      refine vv_staIr (st := []) 12 hk he dX12_gas_9 rfl ml_12_244 sf_X12_isGas (c_X12_isGas G a2 σ) rfl rfl rfl rfl (fun v5 => ?_)
      refine vv_if_ne 21 15 hk dX12_gas_12 rfl rfl ?_ ?_
      · skip
        exact vv_le (ll_s rfl (ll_n (ll_n (ll_n (ll_n (ll_n (ll_n ll_0))))))) (hk15 ())
      · skip
        refine vv_iload_n (i := 3) 22 hk dX12_gas_21 rfl rfl rfl ?_
        refine vv_i2l 23 hk dX12_gas_22 rfl ?_
        refine vv_lconst 24 hk dX12_gas_23 rfl lc_1 ?_
        refine vv_ldc2 27 hk dX12_gas_24 rfl cw_12_247 ?_
        refine vv_staIr (st := []) 30 hk he dX12_gas_27 rfl ml_12_232 sf_X12_out (c_X12_out G a3.toInt64 (1 : Int64) (99999 : Int64) σ) rfl rfl rfl rfl (fun v6 => ?_)
        refine vv_istore 32 [some (rf G 86), some (.int a1), some (.int a2), some (.int a3), some (.int a4), some (.int v6), none] hk dX12_gas_30 rfl rfl rfl ?_
        refine vv_iconst 33 hk dX12_gas_32 rfl ic_3 ?_
        refine vv_iload_n (i := 1) 34 hk dX12_gas_33 rfl rfl rfl ?_
        refine vv_imul 35 hk dX12_gas_34 rfl ?_
        refine vv_iload_n (i := 2) 36 hk dX12_gas_35 rfl rfl rfl ?_
        refine vv_iadd 37 hk dX12_gas_36 rfl ?_
        refine vv_istoreL 39 (fun x7 => [some (rf G 86), some (.int a1), some (.int a2), some (.int a3), some (.int a4), some (.int v6), some (.int x7)]) hk dX12_gas_37 rfl rfl (fun _ => rfl) (fun x7 => ?_)
        refine vv_iload 41 hk dX12_gas_39 rfl rfl ?_
        refine vv_jn (fun t8 => (σ, 77, [some (rf G 86), none, some (.int a2), some (.int a3), some (.int a4), some (.int t8), some (.int x7)], [])) (fun t8 => ?_) (fun k77 hk77 => ?_)
        · skip
          refine vv_iload 79 hk dX12_gas_77 rfl rfl ?_
          refine vv_if_eq 89 82 hk dX12_gas_79 rfl rfl ?_ ?_
          · skip
            refine vv_aload_n (i := 0) 90 hk dX12_gas_89 rfl rfl rfl ?_
            refine vv_invV (st := []) 93 hk he dX12_gas_90 rfl ml_12_235 cf_X12_forgets la_86 ci_12 (c_X12_forgets G σ) rfl rfl rfl rfl (fun σ9 => ?_)
            refine vv_aload_n (i := 0) 94 hk dX12_gas_93 rfl rfl rfl ?_
            refine vv_getR 97 hk dX12_gas_94 rfl la_86 rfl ci_12 rfl fl_12_55 ?_
            refine vv_iload_n (i := 2) 98 hk dX12_gas_97 rfl rfl rfl ?_
            refine vv_dup2 99 hk dX12_gas_98 rfl rfl rfl ?_
            refine vv_iald 100 hk he dX12_gas_99 rfl la_102 sd_102 (fun v10 => ?_)
            refine vv_iload_n (i := 3) 101 hk dX12_gas_100 rfl rfl rfl ?_
            refine vv_iadd 102 hk dX12_gas_101 rfl ?_
            refine vv_iast 103 hk he dX12_gas_102 rfl la_102 sd_102 (fun σ11 => ?_)
            refine vv_iload 105 hk dX12_gas_103 rfl rfl ?_
            refine vv_jn (fun t12 => (t12, 133, [some (rf G 86), none, none, none, some (.int a4), none, some (.int x7)], [])) (fun t12 => ?_) (fun k133 hk133 => ?_)
            · skip
              refine vv_iload 135 hk dX12_gas_133 rfl rfl ?_
              refine vv_jn (fun t13 => (t12, 155, [some (rf G 86), none, none, none, none, none, none], [(.int t13)])) (fun t13 => ?_) (fun k155 hk155 => ?_)
              · skip
                exact hret _ _ _ _ dX12_gas_155
              · skip
                refine vv_if_eq 148 138 hk dX12_gas_135 rfl rfl ?_ ?_
                · skip
                  refine vv_aload_n (i := 0) 149 hk dX12_gas_148 rfl rfl rfl ?_
                  refine vv_getR 152 hk dX12_gas_149 rfl la_86 rfl ci_12 rfl fl_12_46 ?_
                  refine vv_iload 154 hk dX12_gas_152 rfl rfl ?_
                  refine vv_iald 155 hk he dX12_gas_154 rfl la_99 sd_99 (fun v14 => ?_)
                  exact vv_le (ll_s rfl (ll_n (ll_n (ll_n (ll_n (ll_n (ll_n ll_0))))))) (hk155 v14)
                · skip
                  refine vv_aload_n (i := 0) 139 hk dX12_gas_138 rfl rfl rfl ?_
                  refine vv_getR 142 hk dX12_gas_139 rfl la_86 rfl ci_12 rfl fl_12_49 ?_
                  refine vv_iload 144 hk dX12_gas_142 rfl rfl ?_
                  refine vv_iald 145 hk he dX12_gas_144 rfl la_100 sd_100 (fun v15 => ?_)
                  refine vv_goto 155 hk dX12_gas_145 rfl ?_
                  exact vv_le (ll_s rfl (ll_n (ll_n (ll_n (ll_n (ll_n (ll_n ll_0))))))) (hk155 v15)
            · skip
              refine vv_if_eq 122 108 hk dX12_gas_105 rfl rfl ?_ ?_
              · skip
                refine vv_aload_n (i := 0) 123 hk dX12_gas_122 rfl rfl rfl ?_
                refine vv_getR 126 hk dX12_gas_123 rfl la_86 rfl ci_12 rfl fl_12_46 ?_
                refine vv_iload 128 hk dX12_gas_126 rfl rfl ?_
                refine vv_dup2 129 hk dX12_gas_128 rfl rfl rfl ?_
                refine vv_iald 130 hk he dX12_gas_129 rfl la_99 sd_99 (fun v16 => ?_)
                refine vv_iload_n (i := 3) 131 hk dX12_gas_130 rfl rfl rfl ?_
                refine vv_iadd 132 hk dX12_gas_131 rfl ?_
                refine vv_iast 133 hk he dX12_gas_132 rfl la_99 sd_99 (fun σ17 => ?_)
                exact vv_le (ll_s rfl (ll_n (ll_n (ll_n (ll_s rfl (ll_n (ll_s rfl ll_0))))))) (hk133 σ17)
              · skip
                refine vv_aload_n (i := 0) 109 hk dX12_gas_108 rfl rfl rfl ?_
                refine vv_getR 112 hk dX12_gas_109 rfl la_86 rfl ci_12 rfl fl_12_49 ?_
                refine vv_iload 114 hk dX12_gas_112 rfl rfl ?_
                refine vv_dup2 115 hk dX12_gas_114 rfl rfl rfl ?_
                refine vv_iald 116 hk he dX12_gas_115 rfl la_100 sd_100 (fun v18 => ?_)
                refine vv_iload_n (i := 3) 117 hk dX12_gas_116 rfl rfl rfl ?_
                refine vv_iadd 118 hk dX12_gas_117 rfl ?_
                refine vv_iast 119 hk he dX12_gas_118 rfl la_100 sd_100 (fun σ19 => ?_)
                refine vv_goto 133 hk dX12_gas_119 rfl ?_
                exact vv_le (ll_s rfl (ll_n (ll_n (ll_n (ll_s rfl (ll_n (ll_s rfl ll_0))))))) (hk133 σ19)
          · skip
            refine vv_aload_n (i := 0) 83 hk dX12_gas_82 rfl rfl rfl ?_
            refine vv_iload 85 hk dX12_gas_83 rfl rfl ?_
            refine vv_invI (st := []) 88 hk he dX12_gas_85 rfl ml_12_226 cf_X12_no la_86 ci_12 (c_X12_no G t8 σ) rfl rfl rfl rfl (fun v20 σ21 => ?_)
            exact hret _ _ _ _ dX12_gas_88
        · skip
          refine vv_if_ne 77 44 hk dX12_gas_41 rfl rfl ?_ ?_
          · skip
            refine vv_iload 46 hk dX12_gas_44 rfl rfl ?_
            refine vv_jn (fun t22 => (σ, 66, [some (rf G 86), none, some (.int a2), some (.int a3), some (.int a4), some (.int v6), some (.int x7)], [(.int t22)])) (fun t22 => ?_) (fun k66 hk66 => ?_)
            · skip
              refine vv_iload_n (i := 3) 67 hk dX12_gas_66 rfl rfl rfl ?_
              refine vv_iadd 68 hk dX12_gas_67 rfl ?_
              refine vv_ldc 70 hk dX12_gas_68 rfl cw_12_249 ?_
              refine vv_icmp_le 77 73 hk dX12_gas_70 rfl rfl ?_ ?_
              · skip
                exact vv_le (ll_s rfl (ll_n (ll_s rfl (ll_s rfl (ll_s rfl (ll_s rfl (ll_s rfl ll_0))))))) (hk77 v6)
              · skip
                refine vv_bipush 75 hk dX12_gas_73 rfl bp_m6 ?_
                refine vv_istore 77 [some (rf G 86), none, some (.int a2), some (.int a3), some (.int a4), some (.int (-6 : Int32)), some (.int x7)] hk dX12_gas_75 rfl rfl rfl ?_
                exact vv_le (ll_s rfl (ll_n (ll_s rfl (ll_s rfl (ll_s rfl (ll_s rfl (ll_s rfl ll_0))))))) (hk77 (-6 : Int32))
            · skip
              refine vv_if_eq 59 49 hk dX12_gas_46 rfl rfl ?_ ?_
              · skip
                refine vv_aload_n (i := 0) 60 hk dX12_gas_59 rfl rfl rfl ?_
                refine vv_getR 63 hk dX12_gas_60 rfl la_86 rfl ci_12 rfl fl_12_46 ?_
                refine vv_iload 65 hk dX12_gas_63 rfl rfl ?_
                refine vv_iald 66 hk he dX12_gas_65 rfl la_99 sd_99 (fun v23 => ?_)
                exact vv_le (ll_s rfl (ll_n (ll_s rfl (ll_s rfl (ll_s rfl (ll_s rfl (ll_s rfl ll_0))))))) (hk66 v23)
              · skip
                refine vv_aload_n (i := 0) 50 hk dX12_gas_49 rfl rfl rfl ?_
                refine vv_getR 53 hk dX12_gas_50 rfl la_86 rfl ci_12 rfl fl_12_49 ?_
                refine vv_iload 55 hk dX12_gas_53 rfl rfl ?_
                refine vv_iald 56 hk he dX12_gas_55 rfl la_100 sd_100 (fun v24 => ?_)
                refine vv_goto 66 hk dX12_gas_56 rfl ?_
                exact vv_le (ll_s rfl (ll_n (ll_s rfl (ll_s rfl (ll_s rfl (ll_s rfl (ll_s rfl ll_0))))))) (hk66 v24)
          · skip
            exact vv_le (ll_s rfl (ll_n (ll_s rfl (ll_s rfl (ll_s rfl (ll_s rfl (ll_s rfl ll_0))))))) (hk77 v6)
theorem c_X12_gives (G : GT) (a1 : Int32) (a2 : Int32) (a3 : Int32) (σ : Hp) : CtI G false yX12_gives cX12_gives 6 (some .int) 1 [(rf G 86), (.int a1), (.int a2), (.int a3)] (f_X12_gives a1 a2 a3 σ) σ := by
  refine ctI (L0 := [some (rf G 86), some (.int a1), some (.int a2), some (.int a3), none, none]) (by decide +kernel) rfl rfl rfl (fun κ hk he hret => ?_)
  have hk : KO G κ cX12_gives RX12 1 := hk
  refine vv_iload_n (i := 1) 1 hk dX12_gives_0 rfl rfl rfl ?_
  refine vv_i2l 2 hk dX12_gives_1 rfl ?_
  refine vv_lconst 3 hk dX12_gives_2 rfl lc_0 ?_
  refine vv_ldc2 6 hk dX12_gives_3 rfl cw_12_220 ?_
  refine vv_staIr (st := []) 9 hk he dX12_gives_6 rfl ml_12_222 sf_X12_isIn (c_X12_isIn G a1.toInt64 (0 : Int64) (3 : Int64) σ) rfl rfl rfl rfl (fun v1 => ?_)
  refine vv_jn (fun t2 => (σ, 24, [some (rf G 86), none, none, none, none, none], [])) (fun t2 => ?_) (fun k24 hk24 => ?_)
  · skip
    refine vv_aload_n (i := 0) 25 hk dX12_gives_24 rfl rfl rfl ?_
    refine vv_iconst 26 hk dX12_gives_25 rfl ic_m1 ?_
    refine vv_invI (st := []) 29 hk he dX12_gives_26 rfl ml_12_226 cf_X12_no la_86 ci_12 (c_X12_no G (-1 : Int32) σ) rfl rfl rfl rfl (fun v3 σ4 => ?_)
    exact hret _ _ _ _ dX12_gives_29
  · skip
    refine vv_if_eq 24 12 hk dX12_gives_9 rfl rfl ?_ ?_
    · skip
      exact vv_le (ll_s rfl (ll_n (ll_n (ll_n (ll_n (ll_n ll_0)))))) (hk24 ())
    · skip
      refine vv_iload_n (i := 2) 13 hk dX12_gives_12 rfl rfl rfl ?_
      refine vv_i2l 14 hk dX12_gives_13 rfl ?_
      refine vv_lconst 15 hk dX12_gives_14 rfl lc_0 ?_
      refine vv_ldc2 18 hk dX12_gives_15 rfl cw_12_242 ?_
      refine vv_staIr (st := []) 21 hk he dX12_gives_18 rfl ml_12_222 sf_X12_isIn (c_X12_isIn G a2.toInt64 (0 : Int64) (9 : Int64) σ) rfl rfl rfl rfl (fun v5 => ?_)
      refine vv_if_ne 30 24 hk dX12_gives_21 rfl rfl ?_ ?_
      · skip
        exact vv_le (ll_s rfl (ll_n (ll_n (ll_n (ll_n (ll_n ll_0)))))) (hk24 ())
      · skip
        refine vv_iload_n (i := 3) 31 hk dX12_gives_30 rfl rfl rfl ?_
        refine vv_i2l 32 hk dX12_gives_31 rfl ?_
        refine vv_lconst 33 hk dX12_gives_32 rfl lc_0 ?_
        refine vv_ldc2 36 hk dX12_gives_33 rfl cw_12_250 ?_
        refine vv_staIr (st := []) 39 hk he dX12_gives_36 rfl ml_12_232 sf_X12_out (c_X12_out G a3.toInt64 (0 : Int64) (500 : Int64) σ) rfl rfl rfl rfl (fun v6 => ?_)
        refine vv_istore 41 [some (rf G 86), some (.int a1), some (.int a2), some (.int a3), some (.int v6), none] hk dX12_gives_39 rfl rfl rfl ?_
        refine vv_iload 43 hk dX12_gives_41 rfl rfl ?_
        refine vv_if_eq 53 46 hk dX12_gives_43 rfl rfl ?_ ?_
        · skip
          refine vv_aload_n (i := 0) 54 hk dX12_gives_53 rfl rfl rfl ?_
          refine vv_invV (st := []) 57 hk he dX12_gives_54 rfl ml_12_235 cf_X12_forgets la_86 ci_12 (c_X12_forgets G σ) rfl rfl rfl rfl (fun σ7 => ?_)
          refine vv_aload_n (i := 0) 58 hk dX12_gives_57 rfl rfl rfl ?_
          refine vv_getR 61 hk dX12_gives_58 rfl la_86 rfl ci_12 rfl fl_12_22 ?_
          refine vv_bipush 63 hk dX12_gives_61 rfl bp_10 ?_
          refine vv_iload_n (i := 1) 64 hk dX12_gives_63 rfl rfl rfl ?_
          refine vv_imul 65 hk dX12_gives_64 rfl ?_
          refine vv_iload_n (i := 2) 66 hk dX12_gives_65 rfl rfl rfl ?_
          refine vv_iadd 67 hk dX12_gives_66 rfl ?_
          refine vv_iald 68 hk he dX12_gives_67 rfl la_91 sd_91 (fun v8 => ?_)
          refine vv_istore 70 [some (rf G 86), some (.int a1), some (.int a2), some (.int a3), some (.int v6), some (.int v8)] hk dX12_gives_68 rfl rfl rfl ?_
          refine vv_aload_n (i := 0) 71 hk dX12_gives_70 rfl rfl rfl ?_
          refine vv_getR 74 hk dX12_gives_71 rfl la_86 rfl ci_12 rfl fl_12_22 ?_
          refine vv_bipush 76 hk dX12_gives_74 rfl bp_10 ?_
          refine vv_iload_n (i := 1) 77 hk dX12_gives_76 rfl rfl rfl ?_
          refine vv_imul 78 hk dX12_gives_77 rfl ?_
          refine vv_iload_n (i := 2) 79 hk dX12_gives_78 rfl rfl rfl ?_
          refine vv_iadd 80 hk dX12_gives_79 rfl ?_
          refine vv_iload_n (i := 3) 81 hk dX12_gives_80 rfl rfl rfl ?_
          refine vv_iast 82 hk he dX12_gives_81 rfl la_91 sd_91 (fun σ9 => ?_)
          refine vv_iload 84 hk dX12_gives_82 rfl rfl ?_
          exact hret _ _ _ _ dX12_gives_84
        · skip
          refine vv_aload_n (i := 0) 47 hk dX12_gives_46 rfl rfl rfl ?_
          refine vv_iload 49 hk dX12_gives_47 rfl rfl ?_
          refine vv_invI (st := []) 52 hk he dX12_gives_49 rfl ml_12_226 cf_X12_no la_86 ci_12 (c_X12_no G v6 σ) rfl rfl rfl rfl (fun v10 σ11 => ?_)
          exact hret _ _ _ _ dX12_gives_52
theorem c_X12_holds (G : GT) (a1 : Int32) (σ : Hp) : CtI G false yX12_holds cX12_holds 2 (some .int) 0 [(rf G 86), (.int a1)] (rdI (f_X12_holds a1 σ) σ) σ := by
  refine ctIr (L0 := [some (rf G 86), some (.int a1)]) (by decide +kernel) rfl rfl rfl (fun κ hk he hret => ?_)
  have hk : KO G κ cX12_holds RX12 0 := hk
  refine vv_aload_n (i := 0) 1 hk dX12_holds_0 rfl rfl rfl ?_
  refine vv_getR 4 hk dX12_holds_1 rfl la_86 rfl ci_12 rfl fl_12_52 ?_
  refine vv_iconst 5 hk dX12_holds_4 rfl ic_3 ?_
  refine vv_iload_n (i := 1) 6 hk dX12_holds_5 rfl rfl rfl ?_
  refine vv_imul 7 hk dX12_holds_6 rfl ?_
  refine vv_iald 8 hk he dX12_holds_7 rfl la_101 sd_101 (fun v1 => ?_)
  refine vv_aload_n (i := 0) 9 hk dX12_holds_8 rfl rfl rfl ?_
  refine vv_getR 12 hk dX12_holds_9 rfl la_86 rfl ci_12 rfl fl_12_52 ?_
  refine vv_iconst 13 hk dX12_holds_12 rfl ic_3 ?_
  refine vv_iload_n (i := 1) 14 hk dX12_holds_13 rfl rfl rfl ?_
  refine vv_imul 15 hk dX12_holds_14 rfl ?_
  refine vv_iconst 16 hk dX12_holds_15 rfl ic_1 ?_
  refine vv_iadd 17 hk dX12_holds_16 rfl ?_
  refine vv_iald 18 hk he dX12_holds_17 rfl la_101 sd_101 (fun v2 => ?_)
  refine vv_iadd 19 hk dX12_holds_18 rfl ?_
  refine vv_aload_n (i := 0) 20 hk dX12_holds_19 rfl rfl rfl ?_
  refine vv_getR 23 hk dX12_holds_20 rfl la_86 rfl ci_12 rfl fl_12_52 ?_
  refine vv_iconst 24 hk dX12_holds_23 rfl ic_3 ?_
  refine vv_iload_n (i := 1) 25 hk dX12_holds_24 rfl rfl rfl ?_
  refine vv_imul 26 hk dX12_holds_25 rfl ?_
  refine vv_iconst 27 hk dX12_holds_26 rfl ic_2 ?_
  refine vv_iadd 28 hk dX12_holds_27 rfl ?_
  refine vv_iald 29 hk he dX12_holds_28 rfl la_101 sd_101 (fun v3 => ?_)
  refine vv_iadd 30 hk dX12_holds_29 rfl ?_
  exact hret _ _ _ dX12_holds_30
theorem c_X12_givesBack (G : GT) (a1 : Int32) (σ : Hp) : CtV G false yX12_givesBack cX12_givesBack 4 none 1 [(rf G 86), (.int a1)] (f_X12_givesBack a1 σ) σ := by
  refine ctV (L0 := [some (rf G 86), some (.int a1), none, none]) (by decide +kernel) rfl rfl rfl (fun κ hk he hret => ?_)
  have hk : KO G κ cX12_givesBack RX12 1 := hk
  refine vv_iconst 1 hk dX12_givesBack_0 rfl ic_0 ?_
  refine vv_istore_n (i := 2) 2 [some (rf G 86), some (.int a1), some (.int (0 : Int32)), none] hk dX12_givesBack_1 rfl rfl rfl rfl ?_
  refine vv_jn (fun t1 => (t1, 63, [some (rf G 86), some (.int a1), none, none], [])) (fun t1 => ?_) (fun k63 hk63 => ?_)
  · skip
    refine vv_aload_n (i := 0) 64 hk dX12_givesBack_63 rfl rfl rfl ?_
    refine vv_iload_n (i := 1) 65 hk dX12_givesBack_64 rfl rfl rfl ?_
    refine vv_invIr (st := []) 68 hk he dX12_givesBack_65 rfl ml_12_265 cf_X12_holds la_86 ci_12 (c_X12_holds G a1 t1) rfl rfl rfl rfl (fun v2 => ?_)
    refine vv_if_ne 78 71 hk dX12_givesBack_68 rfl rfl ?_ ?_
    · skip
      refine vv_aload_n (i := 0) 72 hk dX12_givesBack_71 rfl rfl rfl ?_
      refine vv_getR 75 hk dX12_givesBack_72 rfl la_86 rfl ci_12 rfl fl_12_68 ?_
      refine vv_iload_n (i := 1) 76 hk dX12_givesBack_75 rfl rfl rfl ?_
      refine vv_iconst 77 hk dX12_givesBack_76 rfl ic_0 ?_
      refine vv_zast 78 hk he dX12_givesBack_77 rfl la_106 sd_106 (fun σ3 => ?_)
      exact hret _ _ _ dX12_givesBack_78
    · skip
      exact hret _ _ _ dX12_givesBack_78
  · skip
    refine vv_lp (fun t4 => (t4.2, 2, [some (rf G 86), some (.int a1), some (.int t4.1), none], [])) (fun kl2 hkl2 t4 => ?_) FU ((0 : Int32), σ)
    refine vv_iload_n (i := 2) 3 hk dX12_givesBack_2 rfl rfl rfl ?_
    refine vv_iconst 4 hk dX12_givesBack_3 rfl ic_3 ?_
    refine vv_icmp_ge 63 7 hk dX12_givesBack_4 rfl rfl ?_ ?_
    · skip
      exact vv_le (ll_s rfl (ll_s rfl (ll_n (ll_n ll_0)))) (hk63 t4.2)
    · skip
      refine vv_aload_n (i := 0) 8 hk dX12_givesBack_7 rfl rfl rfl ?_
      refine vv_getR 11 hk dX12_givesBack_8 rfl la_86 rfl ci_12 rfl fl_12_52 ?_
      refine vv_iconst 12 hk dX12_givesBack_11 rfl ic_3 ?_
      refine vv_iload_n (i := 1) 13 hk dX12_givesBack_12 rfl rfl rfl ?_
      refine vv_imul 14 hk dX12_givesBack_13 rfl ?_
      refine vv_iload_n (i := 2) 15 hk dX12_givesBack_14 rfl rfl rfl ?_
      refine vv_iadd 16 hk dX12_givesBack_15 rfl ?_
      refine vv_iald 17 hk he dX12_givesBack_16 rfl la_101 sd_101 (fun v5 => ?_)
      refine vv_bipush 19 hk dX12_givesBack_17 rfl bp_9 ?_
      refine vv_iadd 20 hk dX12_givesBack_19 rfl ?_
      refine vv_bipush 22 hk dX12_givesBack_20 rfl bp_10 ?_
      refine vv_idiv 23 hk dX12_givesBack_22 rfl ?_
      refine vv_istore_nL (i := 3) 24 (fun x6 => [some (rf G 86), some (.int a1), some (.int t4.1), some (.int x6)]) hk dX12_givesBack_23 rfl rfl rfl (fun _ => rfl) (fun x6 => ?_)
      refine vv_aload_n (i := 0) 25 hk dX12_givesBack_24 rfl rfl rfl ?_
      refine vv_getR 28 hk dX12_givesBack_25 rfl la_86 rfl ci_12 rfl fl_12_52 ?_
      refine vv_iconst 29 hk dX12_givesBack_28 rfl ic_3 ?_
      refine vv_iload_n (i := 1) 30 hk dX12_givesBack_29 rfl rfl rfl ?_
      refine vv_imul 31 hk dX12_givesBack_30 rfl ?_
      refine vv_iload_n (i := 2) 32 hk dX12_givesBack_31 rfl rfl rfl ?_
      refine vv_iadd 33 hk dX12_givesBack_32 rfl ?_
      refine vv_dup2 34 hk dX12_givesBack_33 rfl rfl rfl ?_
      refine vv_iald 35 hk he dX12_givesBack_34 rfl la_101 sd_101 (fun v7 => ?_)
      refine vv_iload_n (i := 3) 36 hk dX12_givesBack_35 rfl rfl rfl ?_
      refine vv_isub 37 hk dX12_givesBack_36 rfl ?_
      refine vv_iast 38 hk he dX12_givesBack_37 rfl la_101 sd_101 (fun σ8 => ?_)
      refine vv_aload_n (i := 0) 39 hk dX12_givesBack_38 rfl rfl rfl ?_
      refine vv_getR 42 hk dX12_givesBack_39 rfl la_86 rfl ci_12 rfl fl_12_46 ?_
      refine vv_iconst 43 hk dX12_givesBack_42 rfl ic_3 ?_
      refine vv_aload_n (i := 0) 44 hk dX12_givesBack_43 rfl rfl rfl ?_
      refine vv_getR 47 hk dX12_givesBack_44 rfl la_86 rfl ci_12 rfl fl_12_34 ?_
      refine vv_iload_n (i := 1) 48 hk dX12_givesBack_47 rfl rfl rfl ?_
      refine vv_iald 49 hk he dX12_givesBack_48 rfl la_95 sd_95 (fun v9 => ?_)
      refine vv_imul 50 hk dX12_givesBack_49 rfl ?_
      refine vv_iload_n (i := 2) 51 hk dX12_givesBack_50 rfl rfl rfl ?_
      refine vv_iadd 52 hk dX12_givesBack_51 rfl ?_
      refine vv_dup2 53 hk dX12_givesBack_52 rfl rfl rfl ?_
      refine vv_iald 54 hk he dX12_givesBack_53 rfl la_99 sd_99 (fun v10 => ?_)
      refine vv_iload_n (i := 3) 55 hk dX12_givesBack_54 rfl rfl rfl ?_
      refine vv_iadd 56 hk dX12_givesBack_55 rfl ?_
      refine vv_iast 57 hk he dX12_givesBack_56 rfl la_99 sd_99 (fun σ11 => ?_)
      refine vv_iinc 60 (fun x12 => [some (rf G 86), some (.int a1), some (.int x12), some (.int x6)]) hk dX12_givesBack_57 rfl rfl ic_1 (fun _ => rfl) (fun x12 => ?_)
      refine vv_goto 2 hk dX12_givesBack_60 rfl ?_
      exact vv_le (ll_s rfl (ll_s rfl (ll_s rfl (ll_n ll_0)))) (hkl2 (x12, σ11))
theorem c_X12_hidden (G : GT) (σ : Hp) : CtI G false yX12_hidden cX12_hidden 5 (some .int) 0 [(rf G 86)] (rdI (f_X12_hidden σ) σ) σ := by
  refine ctIr (L0 := [some (rf G 86), none, none, none, none]) (by decide +kernel) rfl rfl rfl (fun κ hk he hret => ?_)
  have hk : KO G κ cX12_hidden RX12 0 := hk
  refine vv_iconst 1 hk dX12_hidden_0 rfl ic_0 ?_
  refine vv_istore_n (i := 1) 2 [some (rf G 86), some (.int (0 : Int32)), none, none, none] hk dX12_hidden_1 rfl rfl rfl rfl ?_
  refine vv_iconst 3 hk dX12_hidden_2 rfl ic_0 ?_
  refine vv_istore_n (i := 2) 4 [some (rf G 86), some (.int (0 : Int32)), some (.int (0 : Int32)), none, none] hk dX12_hidden_3 rfl rfl rfl rfl ?_
  refine vv_lp (fun t1 => (σ, 4, [some (rf G 86), some (.int t1.1), some (.int t1.2), none, none], [])) (fun kl4 hkl4 t1 => ?_) FU ((0 : Int32), (0 : Int32))
  refine vv_iload_n (i := 2) 5 hk dX12_hidden_4 rfl rfl rfl ?_
  refine vv_iconst 6 hk dX12_hidden_5 rfl ic_3 ?_
  refine vv_icmp_ge 80 9 hk dX12_hidden_6 rfl rfl ?_ ?_
  · skip
    refine vv_iload_n (i := 1) 81 hk dX12_hidden_80 rfl rfl rfl ?_
    exact hret _ _ _ dX12_hidden_81
  · skip
    refine vv_iconst 10 hk dX12_hidden_9 rfl ic_0 ?_
    refine vv_istore_n (i := 3) 11 [some (rf G 86), some (.int t1.1), some (.int t1.2), some (.int (0 : Int32)), none] hk dX12_hidden_10 rfl rfl rfl rfl ?_
    refine vv_iconst 12 hk dX12_hidden_11 rfl ic_0 ?_
    refine vv_istore 14 [some (rf G 86), some (.int t1.1), some (.int t1.2), some (.int (0 : Int32)), some (.int (0 : Int32))] hk dX12_hidden_12 rfl rfl rfl ?_
    refine vv_jn (fun t2 => (σ, 60, [some (rf G 86), some (.int t1.1), some (.int t1.2), some (.int t2), none], [])) (fun t2 => ?_) (fun k60 hk60 => ?_)
    · skip
      refine vv_iload_n (i := 1) 61 hk dX12_hidden_60 rfl rfl rfl ?_
      refine vv_iload_n (i := 3) 62 hk dX12_hidden_61 rfl rfl rfl ?_
      refine vv_jn (fun t3 => (σ, 72, [some (rf G 86), none, some (.int t1.2), none, none], [(.int t3), (.int t1.1)])) (fun t3 => ?_) (fun k72 hk72 => ?_)
      · skip
        refine vv_ior 73 hk dX12_hidden_72 rfl ?_
        refine vv_istore_nL (i := 1) 74 (fun x4 => [some (rf G 86), some (.int x4), some (.int t1.2), none, none]) hk dX12_hidden_73 rfl rfl rfl (fun _ => rfl) (fun x4 => ?_)
        refine vv_iinc 77 (fun x5 => [some (rf G 86), some (.int x4), some (.int x5), none, none]) hk dX12_hidden_74 rfl rfl ic_1 (fun _ => rfl) (fun x5 => ?_)
        refine vv_goto 4 hk dX12_hidden_77 rfl ?_
        exact vv_le (ll_s rfl (ll_s rfl (ll_s rfl (ll_n (ll_n ll_0))))) (hkl4 (x4, x5))
      · skip
        refine vv_if_eq 69 65 hk dX12_hidden_62 rfl rfl ?_ ?_
        · skip
          refine vv_iconst 70 hk dX12_hidden_69 rfl ic_1 ?_
          refine vv_iload_n (i := 2) 71 hk dX12_hidden_70 rfl rfl rfl ?_
          refine vv_ishl 72 hk dX12_hidden_71 rfl ?_
          exact vv_le (ll_s rfl (ll_n (ll_s rfl (ll_n (ll_n ll_0))))) (hk72 ((1 : Int32) <<< (t1.2 &&& 31)))
        · skip
          refine vv_iconst 66 hk dX12_hidden_65 rfl ic_0 ?_
          refine vv_goto 72 hk dX12_hidden_66 rfl ?_
          exact vv_le (ll_s rfl (ll_n (ll_s rfl (ll_n (ll_n ll_0))))) (hk72 (0 : Int32))
    · skip
      refine vv_lp (fun t6 => (σ, 14, [some (rf G 86), some (.int t1.1), some (.int t1.2), some (.int t6.1), some (.int t6.2)], [])) (fun kl14 hkl14 t6 => ?_) FU ((0 : Int32), (0 : Int32))
      refine vv_iload 16 hk dX12_hidden_14 rfl rfl ?_
      refine vv_iconst 17 hk dX12_hidden_16 rfl ic_3 ?_
      refine vv_icmp_ge 60 20 hk dX12_hidden_17 rfl rfl ?_ ?_
      · skip
        exact vv_le (ll_s rfl (ll_s rfl (ll_s rfl (ll_s rfl (ll_n ll_0))))) (hk60 t6.1)
      · skip
        refine vv_iload_n (i := 3) 21 hk dX12_hidden_20 rfl rfl rfl ?_
        refine vv_jn (fun t7 => (σ, 53, [some (rf G 86), some (.int t1.1), some (.int t1.2), none, some (.int t6.2)], [(.int t7)])) (fun t7 => ?_) (fun k53 hk53 => ?_)
        · skip
          refine vv_istore_n (i := 3) 54 [some (rf G 86), some (.int t1.1), some (.int t1.2), some (.int t7), some (.int t6.2)] hk dX12_hidden_53 rfl rfl rfl rfl ?_
          refine vv_iinc 57 (fun x8 => [some (rf G 86), some (.int t1.1), some (.int t1.2), some (.int t7), some (.int x8)]) hk dX12_hidden_54 rfl rfl ic_1 (fun _ => rfl) (fun x8 => ?_)
          refine vv_goto 14 hk dX12_hidden_57 rfl ?_
          exact vv_le (ll_s rfl (ll_s rfl (ll_s rfl (ll_s rfl (ll_s rfl ll_0))))) (hkl14 (t7, x8))
        · skip
          refine vv_jn (fun t9 => (σ, 48, [some (rf G 86), some (.int t1.1), some (.int t1.2), none, some (.int t6.2)], [])) (fun t9 => ?_) (fun k48 hk48 => ?_)
          · skip
            refine vv_iconst 49 hk dX12_hidden_48 rfl ic_1 ?_
            refine vv_goto 53 hk dX12_hidden_49 rfl ?_
            exact vv_le (ll_s rfl (ll_s rfl (ll_s rfl (ll_n (ll_s rfl ll_0))))) (hk53 (1 : Int32))
          · skip
            refine vv_if_ne 48 24 hk dX12_hidden_21 rfl rfl ?_ ?_
            · skip
              refine vv_aload_n (i := 0) 25 hk dX12_hidden_24 rfl rfl rfl ?_
              refine vv_getR 28 hk dX12_hidden_25 rfl la_86 rfl ci_12 rfl fl_12_165 ?_
              refine vv_iload 30 hk dX12_hidden_28 rfl rfl ?_
              refine vv_iald 31 hk he dX12_hidden_30 rfl la_138 sd_138 (fun v10 => ?_)
              refine vv_jn (fun t11 => (σ, 52, [some (rf G 86), some (.int t1.1), some (.int t1.2), none, some (.int t6.2)], [])) (fun t11 => ?_) (fun k52 hk52 => ?_)
              · skip
                refine vv_iconst 53 hk dX12_hidden_52 rfl ic_0 ?_
                exact vv_le (ll_s rfl (ll_s rfl (ll_s rfl (ll_n (ll_s rfl ll_0))))) (hk53 (0 : Int32))
              · skip
                refine vv_if_lt 52 34 hk dX12_hidden_31 rfl rfl ?_ ?_
                · skip
                  exact vv_le (ll_s rfl (ll_s rfl (ll_s rfl (ll_n (ll_s rfl ll_0))))) (hk52 ())
                · skip
                  refine vv_aload_n (i := 0) 35 hk dX12_hidden_34 rfl rfl rfl ?_
                  refine vv_getR 38 hk dX12_hidden_35 rfl la_86 rfl ci_12 rfl fl_12_162 ?_
                  refine vv_iconst 39 hk dX12_hidden_38 rfl ic_3 ?_
                  refine vv_iload 41 hk dX12_hidden_39 rfl rfl ?_
                  refine vv_imul 42 hk dX12_hidden_41 rfl ?_
                  refine vv_iload_n (i := 2) 43 hk dX12_hidden_42 rfl rfl rfl ?_
                  refine vv_iadd 44 hk dX12_hidden_43 rfl ?_
                  refine vv_iald 45 hk he dX12_hidden_44 rfl la_137 sd_137 (fun v12 => ?_)
                  refine vv_if_le 52 48 hk dX12_hidden_45 rfl rfl ?_ ?_
                  · skip
                    exact vv_le (ll_s rfl (ll_s rfl (ll_s rfl (ll_n (ll_s rfl ll_0))))) (hk52 ())
                  · skip
                    exact vv_le (ll_s rfl (ll_s rfl (ll_s rfl (ll_n (ll_s rfl ll_0))))) (hk48 ())
            · skip
              exact vv_le (ll_s rfl (ll_s rfl (ll_s rfl (ll_n (ll_s rfl ll_0))))) (hk48 ())
